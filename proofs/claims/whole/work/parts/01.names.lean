-- ===== PART A: goes FIRST, ahead of the names: the tables' words, and 'selects' of the private methods out of them =====
/-- a private method of a class that the tables say can be made, by its rows of tables_1 -/
def lw_okq (q : MethodName × Nat) : Prop := (q.1.cls ≠ "java/lang/invoke/MethodHandle" ∧ q.1.cls ≠ "java/lang/invoke/VarHandle") ∧ Cond.instantiable q.1.cls q.2 ∈ tables_1 ∧ Cond.privateMethod q.1 ∈ tables_1 ∧ Cond.instanceMethod q.1 ∈ tables_1
theorem lw_p0 : lw_okq (⟨"NotTwice$Reader", "putFirstText", "()V"⟩, 9) := ⟨⟨by decide +kernel, by decide +kernel⟩, List.mem_of_getElem? (i := 81) (by decide +kernel), List.mem_of_getElem? (i := 116) (by decide +kernel), List.mem_of_getElem? (i := 117) (by decide +kernel)⟩
theorem lw_p1 : lw_okq (⟨"NotTwice$Reader", "put", "(I)I"⟩, 9) := ⟨⟨by decide +kernel, by decide +kernel⟩, List.mem_of_getElem? (i := 81) (by decide +kernel), List.mem_of_getElem? (i := 169) (by decide +kernel), List.mem_of_getElem? (i := 170) (by decide +kernel)⟩
theorem lw_p2 : lw_okq (⟨"NotTwice$Reader", "reads", "()Z"⟩, 9) := ⟨⟨by decide +kernel, by decide +kernel⟩, List.mem_of_getElem? (i := 81) (by decide +kernel), List.mem_of_getElem? (i := 173) (by decide +kernel), List.mem_of_getElem? (i := 174) (by decide +kernel)⟩
theorem lw_p3 : lw_okq (⟨"NotTwice$Reader", "step", "()V"⟩, 9) := ⟨⟨by decide +kernel, by decide +kernel⟩, List.mem_of_getElem? (i := 81) (by decide +kernel), List.mem_of_getElem? (i := 177) (by decide +kernel), List.mem_of_getElem? (i := 178) (by decide +kernel)⟩
theorem lw_p4 : lw_okq (⟨"NotTwice$Reader", "word", "()I"⟩, 9) := ⟨⟨by decide +kernel, by decide +kernel⟩, List.mem_of_getElem? (i := 81) (by decide +kernel), List.mem_of_getElem? (i := 184) (by decide +kernel), List.mem_of_getElem? (i := 185) (by decide +kernel)⟩
theorem lw_p5 : lw_okq (⟨"NotTwice$Reader", "numeral", "()I"⟩, 9) := ⟨⟨by decide +kernel, by decide +kernel⟩, List.mem_of_getElem? (i := 81) (by decide +kernel), List.mem_of_getElem? (i := 192) (by decide +kernel), List.mem_of_getElem? (i := 193) (by decide +kernel)⟩
theorem lw_p6 : lw_okq (⟨"NotTwice$Reader", "takes", "(I)Z"⟩, 9) := ⟨⟨by decide +kernel, by decide +kernel⟩, List.mem_of_getElem? (i := 81) (by decide +kernel), List.mem_of_getElem? (i := 256) (by decide +kernel), List.mem_of_getElem? (i := 257) (by decide +kernel)⟩
theorem lw_p7 : lw_okq (⟨"NotTwice$Reader", "readsLevel", "(I)Z"⟩, 9) := ⟨⟨by decide +kernel, by decide +kernel⟩, List.mem_of_getElem? (i := 81) (by decide +kernel), List.mem_of_getElem? (i := 260) (by decide +kernel), List.mem_of_getElem? (i := 261) (by decide +kernel)⟩
theorem lw_p8 : lw_okq (⟨"NotTwice$Reader", "readsOpened", "()Z"⟩, 9) := ⟨⟨by decide +kernel, by decide +kernel⟩, List.mem_of_getElem? (i := 81) (by decide +kernel), List.mem_of_getElem? (i := 264) (by decide +kernel), List.mem_of_getElem? (i := 265) (by decide +kernel)⟩
theorem lw_p9 : lw_okq (⟨"NotTwice$Reader", "write", "(I)V"⟩, 9) := ⟨⟨by decide +kernel, by decide +kernel⟩, List.mem_of_getElem? (i := 81) (by decide +kernel), List.mem_of_getElem? (i := 268) (by decide +kernel), List.mem_of_getElem? (i := 269) (by decide +kernel)⟩
theorem lw_p10 : lw_okq (⟨"NotTwice$Reader", "readsPlain", "()Z"⟩, 9) := ⟨⟨by decide +kernel, by decide +kernel⟩, List.mem_of_getElem? (i := 81) (by decide +kernel), List.mem_of_getElem? (i := 272) (by decide +kernel), List.mem_of_getElem? (i := 273) (by decide +kernel)⟩
theorem lw_p11 : lw_okq (⟨"NotTwice$Reader", "made", "()LNotTwice$Rule;"⟩, 9) := ⟨⟨by decide +kernel, by decide +kernel⟩, List.mem_of_getElem? (i := 81) (by decide +kernel), List.mem_of_getElem? (i := 279) (by decide +kernel), List.mem_of_getElem? (i := 280) (by decide +kernel)⟩
theorem lw_p12 : lw_okq (⟨"NotTwice$Texts", "add", "(LNotTwice$Rule;)I"⟩, 4) := ⟨⟨by decide +kernel, by decide +kernel⟩, List.mem_of_getElem? (i := 57) (by decide +kernel), List.mem_of_getElem? (i := 303) (by decide +kernel), List.mem_of_getElem? (i := 304) (by decide +kernel)⟩
theorem lw_p13 : lw_okq (⟨"NotTwice$Texts", "isFull", "()Z"⟩, 4) := ⟨⟨by decide +kernel, by decide +kernel⟩, List.mem_of_getElem? (i := 57) (by decide +kernel), List.mem_of_getElem? (i := 307) (by decide +kernel), List.mem_of_getElem? (i := 308) (by decide +kernel)⟩
theorem lw_p14 : lw_okq (⟨"NotTwice$Reader", "empty", "()V"⟩, 9) := ⟨⟨by decide +kernel, by decide +kernel⟩, List.mem_of_getElem? (i := 81) (by decide +kernel), List.mem_of_getElem? (i := 311) (by decide +kernel), List.mem_of_getElem? (i := 312) (by decide +kernel)⟩
theorem lw_p15 : lw_okq (⟨"NotTwice$Shelf", "add", "(III)I"⟩, 5) := ⟨⟨by decide +kernel, by decide +kernel⟩, List.mem_of_getElem? (i := 27) (by decide +kernel), List.mem_of_getElem? (i := 463) (by decide +kernel), List.mem_of_getElem? (i := 464) (by decide +kernel)⟩
def lw_privs_1 : List (MethodName × Nat) := [(⟨"NotTwice$Reader", "putFirstText", "()V"⟩, 9), (⟨"NotTwice$Reader", "put", "(I)I"⟩, 9), (⟨"NotTwice$Reader", "reads", "()Z"⟩, 9), (⟨"NotTwice$Reader", "step", "()V"⟩, 9), (⟨"NotTwice$Reader", "word", "()I"⟩, 9), (⟨"NotTwice$Reader", "numeral", "()I"⟩, 9), (⟨"NotTwice$Reader", "takes", "(I)Z"⟩, 9), (⟨"NotTwice$Reader", "readsLevel", "(I)Z"⟩, 9), (⟨"NotTwice$Reader", "readsOpened", "()Z"⟩, 9), (⟨"NotTwice$Reader", "write", "(I)V"⟩, 9), (⟨"NotTwice$Reader", "readsPlain", "()Z"⟩, 9), (⟨"NotTwice$Reader", "made", "()LNotTwice$Rule;"⟩, 9), (⟨"NotTwice$Texts", "add", "(LNotTwice$Rule;)I"⟩, 4), (⟨"NotTwice$Texts", "isFull", "()Z"⟩, 4), (⟨"NotTwice$Reader", "empty", "()V"⟩, 9), (⟨"NotTwice$Shelf", "add", "(III)I"⟩, 5)]
theorem lw_r1 : ∀ q ∈ lw_privs_1, lw_okq q := List.forall_mem_cons.mpr ⟨lw_p0, List.forall_mem_cons.mpr ⟨lw_p1, List.forall_mem_cons.mpr ⟨lw_p2, List.forall_mem_cons.mpr ⟨lw_p3, List.forall_mem_cons.mpr ⟨lw_p4, List.forall_mem_cons.mpr ⟨lw_p5, List.forall_mem_cons.mpr ⟨lw_p6, List.forall_mem_cons.mpr ⟨lw_p7, List.forall_mem_cons.mpr ⟨lw_p8, List.forall_mem_cons.mpr ⟨lw_p9, List.forall_mem_cons.mpr ⟨lw_p10, List.forall_mem_cons.mpr ⟨lw_p11, List.forall_mem_cons.mpr ⟨lw_p12, List.forall_mem_cons.mpr ⟨lw_p13, List.forall_mem_cons.mpr ⟨lw_p14, List.forall_mem_cons.mpr ⟨lw_p15, fun _ h => absurd h List.not_mem_nil⟩⟩⟩⟩⟩⟩⟩⟩⟩⟩⟩⟩⟩⟩⟩⟩
theorem lw_p16 : lw_okq (⟨"NotTwice$Shelf", "has", "(I)Z"⟩, 5) := ⟨⟨by decide +kernel, by decide +kernel⟩, List.mem_of_getElem? (i := 27) (by decide +kernel), List.mem_of_getElem? (i := 471) (by decide +kernel), List.mem_of_getElem? (i := 472) (by decide +kernel)⟩
theorem lw_p17 : lw_okq (⟨"NotTwice$Shelf", "join", "(II)V"⟩, 5) := ⟨⟨by decide +kernel, by decide +kernel⟩, List.mem_of_getElem? (i := 27) (by decide +kernel), List.mem_of_getElem? (i := 476) (by decide +kernel), List.mem_of_getElem? (i := 477) (by decide +kernel)⟩
theorem lw_p18 : lw_okq (⟨"NotTwice$Shelf", "part", "(I)V"⟩, 5) := ⟨⟨by decide +kernel, by decide +kernel⟩, List.mem_of_getElem? (i := 27) (by decide +kernel), List.mem_of_getElem? (i := 480) (by decide +kernel), List.mem_of_getElem? (i := 481) (by decide +kernel)⟩
theorem lw_p19 : lw_okq (⟨"NotTwice$People", "come", "(II)I"⟩, 14) := ⟨⟨by decide +kernel, by decide +kernel⟩, List.mem_of_getElem? (i := 315) (by decide +kernel), List.mem_of_getElem? (i := 489) (by decide +kernel), List.mem_of_getElem? (i := 490) (by decide +kernel)⟩
theorem lw_p20 : lw_okq (⟨"NotTwice$People", "sit", "(III)V"⟩, 14) := ⟨⟨by decide +kernel, by decide +kernel⟩, List.mem_of_getElem? (i := 315) (by decide +kernel), List.mem_of_getElem? (i := 494) (by decide +kernel), List.mem_of_getElem? (i := 495) (by decide +kernel)⟩
theorem lw_p21 : lw_okq (⟨"NotTwice$People", "has", "(I)Z"⟩, 14) := ⟨⟨by decide +kernel, by decide +kernel⟩, List.mem_of_getElem? (i := 315) (by decide +kernel), List.mem_of_getElem? (i := 502) (by decide +kernel), List.mem_of_getElem? (i := 503) (by decide +kernel)⟩
theorem lw_p22 : lw_okq (⟨"NotTwice$People", "hear", "(II)V"⟩, 14) := ⟨⟨by decide +kernel, by decide +kernel⟩, List.mem_of_getElem? (i := 315) (by decide +kernel), List.mem_of_getElem? (i := 516) (by decide +kernel), List.mem_of_getElem? (i := 517) (by decide +kernel)⟩
theorem lw_p23 : lw_okq (⟨"NotTwice$People", "forget", "(II)V"⟩, 14) := ⟨⟨by decide +kernel, by decide +kernel⟩, List.mem_of_getElem? (i := 315) (by decide +kernel), List.mem_of_getElem? (i := 520) (by decide +kernel), List.mem_of_getElem? (i := 521) (by decide +kernel)⟩
theorem lw_p24 : lw_okq (⟨"NotTwice$Shelf", "stays", "(I)I"⟩, 5) := ⟨⟨by decide +kernel, by decide +kernel⟩, List.mem_of_getElem? (i := 27) (by decide +kernel), List.mem_of_getElem? (i := 528) (by decide +kernel), List.mem_of_getElem? (i := 529) (by decide +kernel)⟩
theorem lw_p25 : lw_okq (⟨"NotTwice$Shelf", "counts", "(II)I"⟩, 5) := ⟨⟨by decide +kernel, by decide +kernel⟩, List.mem_of_getElem? (i := 27) (by decide +kernel), List.mem_of_getElem? (i := 533) (by decide +kernel), List.mem_of_getElem? (i := 534) (by decide +kernel)⟩
theorem lw_p26 : lw_okq (⟨"NotTwice$People", "knows", "(I)I"⟩, 14) := ⟨⟨by decide +kernel, by decide +kernel⟩, List.mem_of_getElem? (i := 315) (by decide +kernel), List.mem_of_getElem? (i := 541) (by decide +kernel), List.mem_of_getElem? (i := 542) (by decide +kernel)⟩
theorem lw_p27 : lw_okq (⟨"NotTwice$Shelf", "withTwins", "(I)I"⟩, 5) := ⟨⟨by decide +kernel, by decide +kernel⟩, List.mem_of_getElem? (i := 27) (by decide +kernel), List.mem_of_getElem? (i := 545) (by decide +kernel), List.mem_of_getElem? (i := 546) (by decide +kernel)⟩
theorem lw_p28 : lw_okq (⟨"NotTwice$Reader", "place", "()I"⟩, 9) := ⟨⟨by decide +kernel, by decide +kernel⟩, List.mem_of_getElem? (i := 81) (by decide +kernel), List.mem_of_getElem? (i := 559) (by decide +kernel), List.mem_of_getElem? (i := 560) (by decide +kernel)⟩
theorem lw_p29 : lw_okq (⟨"NotTwice$Texts", "has", "(I)Z"⟩, 4) := ⟨⟨by decide +kernel, by decide +kernel⟩, List.mem_of_getElem? (i := 57) (by decide +kernel), List.mem_of_getElem? (i := 567) (by decide +kernel), List.mem_of_getElem? (i := 568) (by decide +kernel)⟩
theorem lw_p30 : lw_okq (⟨"NotTwice$People", "tellableIn", "(I)I"⟩, 14) := ⟨⟨by decide +kernel, by decide +kernel⟩, List.mem_of_getElem? (i := 315) (by decide +kernel), List.mem_of_getElem? (i := 576) (by decide +kernel), List.mem_of_getElem? (i := 577) (by decide +kernel)⟩
theorem lw_p31 : lw_okq (⟨"NotTwice$People", "lookInto", "(I)V"⟩, 14) := ⟨⟨by decide +kernel, by decide +kernel⟩, List.mem_of_getElem? (i := 315) (by decide +kernel), List.mem_of_getElem? (i := 580) (by decide +kernel), List.mem_of_getElem? (i := 581) (by decide +kernel)⟩
def lw_privs_2 : List (MethodName × Nat) := [(⟨"NotTwice$Shelf", "has", "(I)Z"⟩, 5), (⟨"NotTwice$Shelf", "join", "(II)V"⟩, 5), (⟨"NotTwice$Shelf", "part", "(I)V"⟩, 5), (⟨"NotTwice$People", "come", "(II)I"⟩, 14), (⟨"NotTwice$People", "sit", "(III)V"⟩, 14), (⟨"NotTwice$People", "has", "(I)Z"⟩, 14), (⟨"NotTwice$People", "hear", "(II)V"⟩, 14), (⟨"NotTwice$People", "forget", "(II)V"⟩, 14), (⟨"NotTwice$Shelf", "stays", "(I)I"⟩, 5), (⟨"NotTwice$Shelf", "counts", "(II)I"⟩, 5), (⟨"NotTwice$People", "knows", "(I)I"⟩, 14), (⟨"NotTwice$Shelf", "withTwins", "(I)I"⟩, 5), (⟨"NotTwice$Reader", "place", "()I"⟩, 9), (⟨"NotTwice$Texts", "has", "(I)Z"⟩, 4), (⟨"NotTwice$People", "tellableIn", "(I)I"⟩, 14), (⟨"NotTwice$People", "lookInto", "(I)V"⟩, 14)]
theorem lw_r2 : ∀ q ∈ lw_privs_2, lw_okq q := List.forall_mem_cons.mpr ⟨lw_p16, List.forall_mem_cons.mpr ⟨lw_p17, List.forall_mem_cons.mpr ⟨lw_p18, List.forall_mem_cons.mpr ⟨lw_p19, List.forall_mem_cons.mpr ⟨lw_p20, List.forall_mem_cons.mpr ⟨lw_p21, List.forall_mem_cons.mpr ⟨lw_p22, List.forall_mem_cons.mpr ⟨lw_p23, List.forall_mem_cons.mpr ⟨lw_p24, List.forall_mem_cons.mpr ⟨lw_p25, List.forall_mem_cons.mpr ⟨lw_p26, List.forall_mem_cons.mpr ⟨lw_p27, List.forall_mem_cons.mpr ⟨lw_p28, List.forall_mem_cons.mpr ⟨lw_p29, List.forall_mem_cons.mpr ⟨lw_p30, List.forall_mem_cons.mpr ⟨lw_p31, fun _ h => absurd h List.not_mem_nil⟩⟩⟩⟩⟩⟩⟩⟩⟩⟩⟩⟩⟩⟩⟩⟩
theorem lw_p32 : lw_okq (⟨"NotTwice$People", "tellableOf", "(II)I"⟩, 14) := ⟨⟨by decide +kernel, by decide +kernel⟩, List.mem_of_getElem? (i := 315) (by decide +kernel), List.mem_of_getElem? (i := 585) (by decide +kernel), List.mem_of_getElem? (i := 586) (by decide +kernel)⟩
theorem lw_p33 : lw_okq (⟨"NotTwice$People", "newToOthers", "(I)I"⟩, 14) := ⟨⟨by decide +kernel, by decide +kernel⟩, List.mem_of_getElem? (i := 315) (by decide +kernel), List.mem_of_getElem? (i := 589) (by decide +kernel), List.mem_of_getElem? (i := 590) (by decide +kernel)⟩
theorem lw_p34 : lw_okq (⟨"NotTwice$Shelf", "all", "()I"⟩, 5) := ⟨⟨by decide +kernel, by decide +kernel⟩, List.mem_of_getElem? (i := 27) (by decide +kernel), List.mem_of_getElem? (i := 593) (by decide +kernel), List.mem_of_getElem? (i := 594) (by decide +kernel)⟩
theorem lw_p35 : lw_okq (⟨"NotTwice$People", "value", "(IIII)I"⟩, 14) := ⟨⟨by decide +kernel, by decide +kernel⟩, List.mem_of_getElem? (i := 315) (by decide +kernel), List.mem_of_getElem? (i := 597) (by decide +kernel), List.mem_of_getElem? (i := 598) (by decide +kernel)⟩
theorem lw_p36 : lw_okq (⟨"NotTwice$Texts", "at", "(I)LNotTwice$Rule;"⟩, 4) := ⟨⟨by decide +kernel, by decide +kernel⟩, List.mem_of_getElem? (i := 57) (by decide +kernel), List.mem_of_getElem? (i := 601) (by decide +kernel), List.mem_of_getElem? (i := 602) (by decide +kernel)⟩
theorem lw_p37 : lw_okq (⟨"NotTwice$Rule", "value", "(I[I[I)I"⟩, 3) := ⟨⟨by decide +kernel, by decide +kernel⟩, List.mem_of_getElem? (i := 283) (by decide +kernel), List.mem_of_getElem? (i := 612) (by decide +kernel), List.mem_of_getElem? (i := 613) (by decide +kernel)⟩
theorem lw_p38 : lw_okq (⟨"NotTwice$People", "byWhom", "(II)I"⟩, 14) := ⟨⟨by decide +kernel, by decide +kernel⟩, List.mem_of_getElem? (i := 315) (by decide +kernel), List.mem_of_getElem? (i := 623) (by decide +kernel), List.mem_of_getElem? (i := 624) (by decide +kernel)⟩
theorem lw_p39 : lw_okq (⟨"NotTwice$People", "firstTeller", "(II)I"⟩, 14) := ⟨⟨by decide +kernel, by decide +kernel⟩, List.mem_of_getElem? (i := 315) (by decide +kernel), List.mem_of_getElem? (i := 627) (by decide +kernel), List.mem_of_getElem? (i := 628) (by decide +kernel)⟩
theorem lw_p40 : lw_okq (⟨"NotTwice$People", "worthOf", "(II)J"⟩, 14) := ⟨⟨by decide +kernel, by decide +kernel⟩, List.mem_of_getElem? (i := 315) (by decide +kernel), List.mem_of_getElem? (i := 635) (by decide +kernel), List.mem_of_getElem? (i := 636) (by decide +kernel)⟩
theorem lw_p41 : lw_okq (⟨"NotTwice$People", "worthBy", "(II)J"⟩, 14) := ⟨⟨by decide +kernel, by decide +kernel⟩, List.mem_of_getElem? (i := 315) (by decide +kernel), List.mem_of_getElem? (i := 640) (by decide +kernel), List.mem_of_getElem? (i := 641) (by decide +kernel)⟩
theorem lw_p42 : lw_okq (⟨"NotTwice$People", "bestOf", "(I)I"⟩, 14) := ⟨⟨by decide +kernel, by decide +kernel⟩, List.mem_of_getElem? (i := 315) (by decide +kernel), List.mem_of_getElem? (i := 654) (by decide +kernel), List.mem_of_getElem? (i := 655) (by decide +kernel)⟩
theorem lw_p43 : lw_okq (⟨"NotTwice$People", "spend", "(II)I"⟩, 14) := ⟨⟨by decide +kernel, by decide +kernel⟩, List.mem_of_getElem? (i := 315) (by decide +kernel), List.mem_of_getElem? (i := 662) (by decide +kernel), List.mem_of_getElem? (i := 663) (by decide +kernel)⟩
theorem lw_p44 : lw_okq (⟨"NotTwice$People", "sleep", "()V"⟩, 14) := ⟨⟨by decide +kernel, by decide +kernel⟩, List.mem_of_getElem? (i := 315) (by decide +kernel), List.mem_of_getElem? (i := 671) (by decide +kernel), List.mem_of_getElem? (i := 672) (by decide +kernel)⟩
theorem lw_p45 : lw_okq (⟨"NotTwice$People", "unheardIn", "(I)I"⟩, 14) := ⟨⟨by decide +kernel, by decide +kernel⟩, List.mem_of_getElem? (i := 315) (by decide +kernel), List.mem_of_getElem? (i := 681) (by decide +kernel), List.mem_of_getElem? (i := 682) (by decide +kernel)⟩
theorem lw_p46 : lw_okq (⟨"NotTwice", "canTellAll", "(II)Z"⟩, 9) := ⟨⟨by decide +kernel, by decide +kernel⟩, List.mem_of_getElem? (i := 19) (by decide +kernel), List.mem_of_getElem? (i := 686) (by decide +kernel), List.mem_of_getElem? (i := 687) (by decide +kernel)⟩
theorem lw_p47 : lw_okq (⟨"NotTwice$People", "takeAll", "(LNotTwice$People;)V"⟩, 14) := ⟨⟨by decide +kernel, by decide +kernel⟩, List.mem_of_getElem? (i := 315) (by decide +kernel), List.mem_of_getElem? (i := 690) (by decide +kernel), List.mem_of_getElem? (i := 691) (by decide +kernel)⟩
def lw_privs_3 : List (MethodName × Nat) := [(⟨"NotTwice$People", "tellableOf", "(II)I"⟩, 14), (⟨"NotTwice$People", "newToOthers", "(I)I"⟩, 14), (⟨"NotTwice$Shelf", "all", "()I"⟩, 5), (⟨"NotTwice$People", "value", "(IIII)I"⟩, 14), (⟨"NotTwice$Texts", "at", "(I)LNotTwice$Rule;"⟩, 4), (⟨"NotTwice$Rule", "value", "(I[I[I)I"⟩, 3), (⟨"NotTwice$People", "byWhom", "(II)I"⟩, 14), (⟨"NotTwice$People", "firstTeller", "(II)I"⟩, 14), (⟨"NotTwice$People", "worthOf", "(II)J"⟩, 14), (⟨"NotTwice$People", "worthBy", "(II)J"⟩, 14), (⟨"NotTwice$People", "bestOf", "(I)I"⟩, 14), (⟨"NotTwice$People", "spend", "(II)I"⟩, 14), (⟨"NotTwice$People", "sleep", "()V"⟩, 14), (⟨"NotTwice$People", "unheardIn", "(I)I"⟩, 14), (⟨"NotTwice", "canTellAll", "(II)Z"⟩, 9), (⟨"NotTwice$People", "takeAll", "(LNotTwice$People;)V"⟩, 14)]
theorem lw_r3 : ∀ q ∈ lw_privs_3, lw_okq q := List.forall_mem_cons.mpr ⟨lw_p32, List.forall_mem_cons.mpr ⟨lw_p33, List.forall_mem_cons.mpr ⟨lw_p34, List.forall_mem_cons.mpr ⟨lw_p35, List.forall_mem_cons.mpr ⟨lw_p36, List.forall_mem_cons.mpr ⟨lw_p37, List.forall_mem_cons.mpr ⟨lw_p38, List.forall_mem_cons.mpr ⟨lw_p39, List.forall_mem_cons.mpr ⟨lw_p40, List.forall_mem_cons.mpr ⟨lw_p41, List.forall_mem_cons.mpr ⟨lw_p42, List.forall_mem_cons.mpr ⟨lw_p43, List.forall_mem_cons.mpr ⟨lw_p44, List.forall_mem_cons.mpr ⟨lw_p45, List.forall_mem_cons.mpr ⟨lw_p46, List.forall_mem_cons.mpr ⟨lw_p47, fun _ h => absurd h List.not_mem_nil⟩⟩⟩⟩⟩⟩⟩⟩⟩⟩⟩⟩⟩⟩⟩⟩
theorem lw_p48 : lw_okq (⟨"NotTwice$People", "goBackTo", "(LNotTwice$People;)V"⟩, 14) := ⟨⟨by decide +kernel, by decide +kernel⟩, List.mem_of_getElem? (i := 315) (by decide +kernel), List.mem_of_getElem? (i := 695) (by decide +kernel), List.mem_of_getElem? (i := 696) (by decide +kernel)⟩
theorem lw_p49 : lw_okq (⟨"NotTwice$Seating", "waysOver", "(I)I"⟩, 9) := ⟨⟨by decide +kernel, by decide +kernel⟩, List.mem_of_getElem? (i := 374) (by decide +kernel), List.mem_of_getElem? (i := 703) (by decide +kernel), List.mem_of_getElem? (i := 704) (by decide +kernel)⟩
theorem lw_p50 : lw_okq (⟨"NotTwice$Seating", "search", "(I)V"⟩, 9) := ⟨⟨by decide +kernel, by decide +kernel⟩, List.mem_of_getElem? (i := 374) (by decide +kernel), List.mem_of_getElem? (i := 707) (by decide +kernel), List.mem_of_getElem? (i := 708) (by decide +kernel)⟩
theorem lw_p51 : lw_okq (⟨"NotTwice$Seating", "prepare", "()V"⟩, 9) := ⟨⟨by decide +kernel, by decide +kernel⟩, List.mem_of_getElem? (i := 374) (by decide +kernel), List.mem_of_getElem? (i := 711) (by decide +kernel), List.mem_of_getElem? (i := 712) (by decide +kernel)⟩
theorem lw_p52 : lw_okq (⟨"NotTwice$Seating", "awakeOf", "(II)I"⟩, 9) := ⟨⟨by decide +kernel, by decide +kernel⟩, List.mem_of_getElem? (i := 374) (by decide +kernel), List.mem_of_getElem? (i := 716) (by decide +kernel), List.mem_of_getElem? (i := 717) (by decide +kernel)⟩
theorem lw_p53 : lw_okq (⟨"NotTwice$Seating", "housesWithStory", "(I)I"⟩, 9) := ⟨⟨by decide +kernel, by decide +kernel⟩, List.mem_of_getElem? (i := 374) (by decide +kernel), List.mem_of_getElem? (i := 724) (by decide +kernel), List.mem_of_getElem? (i := 725) (by decide +kernel)⟩
theorem lw_p54 : lw_okq (⟨"NotTwice$Seating", "fillHouses", "(I)V"⟩, 9) := ⟨⟨by decide +kernel, by decide +kernel⟩, List.mem_of_getElem? (i := 374) (by decide +kernel), List.mem_of_getElem? (i := 728) (by decide +kernel), List.mem_of_getElem? (i := 729) (by decide +kernel)⟩
theorem lw_p55 : lw_okq (⟨"NotTwice$Seating", "nextWay", "(I)V"⟩, 9) := ⟨⟨by decide +kernel, by decide +kernel⟩, List.mem_of_getElem? (i := 374) (by decide +kernel), List.mem_of_getElem? (i := 734) (by decide +kernel), List.mem_of_getElem? (i := 735) (by decide +kernel)⟩
theorem lw_p56 : lw_okq (⟨"NotTwice$People", "tellableBy", "(I)I"⟩, 14) := ⟨⟨by decide +kernel, by decide +kernel⟩, List.mem_of_getElem? (i := 315) (by decide +kernel), List.mem_of_getElem? (i := 746) (by decide +kernel), List.mem_of_getElem? (i := 747) (by decide +kernel)⟩
theorem lw_p57 : lw_okq (⟨"NotTwice$Sheets", "has", "(I)Z"⟩, 3) := ⟨⟨by decide +kernel, by decide +kernel⟩, List.mem_of_getElem? (i := 410) (by decide +kernel), List.mem_of_getElem? (i := 764) (by decide +kernel), List.mem_of_getElem? (i := 765) (by decide +kernel)⟩
theorem lw_p58 : lw_okq (⟨"NotTwice$Sheets", "isMissing", "(I)Z"⟩, 3) := ⟨⟨by decide +kernel, by decide +kernel⟩, List.mem_of_getElem? (i := 410) (by decide +kernel), List.mem_of_getElem? (i := 769) (by decide +kernel), List.mem_of_getElem? (i := 770) (by decide +kernel)⟩
theorem lw_p59 : lw_okq (⟨"NotTwice$Sheets", "at", "(II)I"⟩, 3) := ⟨⟨by decide +kernel, by decide +kernel⟩, List.mem_of_getElem? (i := 410) (by decide +kernel), List.mem_of_getElem? (i := 773) (by decide +kernel), List.mem_of_getElem? (i := 774) (by decide +kernel)⟩
theorem lw_p60 : lw_okq (⟨"NotTwice$Sheets", "lay", "(III)V"⟩, 3) := ⟨⟨by decide +kernel, by decide +kernel⟩, List.mem_of_getElem? (i := 410) (by decide +kernel), List.mem_of_getElem? (i := 799) (by decide +kernel), List.mem_of_getElem? (i := 800) (by decide +kernel)⟩
theorem lw_p61 : lw_okq (⟨"NotTwice$Sheets", "reaches", "(II)Z"⟩, 3) := ⟨⟨by decide +kernel, by decide +kernel⟩, List.mem_of_getElem? (i := 410) (by decide +kernel), List.mem_of_getElem? (i := 807) (by decide +kernel), List.mem_of_getElem? (i := 808) (by decide +kernel)⟩
theorem lw_p62 : lw_okq (⟨"NotTwice$Sheets", "write", "(III)V"⟩, 3) := ⟨⟨by decide +kernel, by decide +kernel⟩, List.mem_of_getElem? (i := 410) (by decide +kernel), List.mem_of_getElem? (i := 811) (by decide +kernel), List.mem_of_getElem? (i := 812) (by decide +kernel)⟩
theorem lw_p63 : lw_okq (⟨"NotTwice$Sheets", "hasRun", "(III)Z"⟩, 3) := ⟨⟨by decide +kernel, by decide +kernel⟩, List.mem_of_getElem? (i := 410) (by decide +kernel), List.mem_of_getElem? (i := 819) (by decide +kernel), List.mem_of_getElem? (i := 820) (by decide +kernel)⟩
def lw_privs_4 : List (MethodName × Nat) := [(⟨"NotTwice$People", "goBackTo", "(LNotTwice$People;)V"⟩, 14), (⟨"NotTwice$Seating", "waysOver", "(I)I"⟩, 9), (⟨"NotTwice$Seating", "search", "(I)V"⟩, 9), (⟨"NotTwice$Seating", "prepare", "()V"⟩, 9), (⟨"NotTwice$Seating", "awakeOf", "(II)I"⟩, 9), (⟨"NotTwice$Seating", "housesWithStory", "(I)I"⟩, 9), (⟨"NotTwice$Seating", "fillHouses", "(I)V"⟩, 9), (⟨"NotTwice$Seating", "nextWay", "(I)V"⟩, 9), (⟨"NotTwice$People", "tellableBy", "(I)I"⟩, 14), (⟨"NotTwice$Sheets", "has", "(I)Z"⟩, 3), (⟨"NotTwice$Sheets", "isMissing", "(I)Z"⟩, 3), (⟨"NotTwice$Sheets", "at", "(II)I"⟩, 3), (⟨"NotTwice$Sheets", "lay", "(III)V"⟩, 3), (⟨"NotTwice$Sheets", "reaches", "(II)Z"⟩, 3), (⟨"NotTwice$Sheets", "write", "(III)V"⟩, 3), (⟨"NotTwice$Sheets", "hasRun", "(III)Z"⟩, 3)]
theorem lw_r4 : ∀ q ∈ lw_privs_4, lw_okq q := List.forall_mem_cons.mpr ⟨lw_p48, List.forall_mem_cons.mpr ⟨lw_p49, List.forall_mem_cons.mpr ⟨lw_p50, List.forall_mem_cons.mpr ⟨lw_p51, List.forall_mem_cons.mpr ⟨lw_p52, List.forall_mem_cons.mpr ⟨lw_p53, List.forall_mem_cons.mpr ⟨lw_p54, List.forall_mem_cons.mpr ⟨lw_p55, List.forall_mem_cons.mpr ⟨lw_p56, List.forall_mem_cons.mpr ⟨lw_p57, List.forall_mem_cons.mpr ⟨lw_p58, List.forall_mem_cons.mpr ⟨lw_p59, List.forall_mem_cons.mpr ⟨lw_p60, List.forall_mem_cons.mpr ⟨lw_p61, List.forall_mem_cons.mpr ⟨lw_p62, List.forall_mem_cons.mpr ⟨lw_p63, fun _ h => absurd h List.not_mem_nil⟩⟩⟩⟩⟩⟩⟩⟩⟩⟩⟩⟩⟩⟩⟩⟩
theorem lw_p64 : lw_okq (⟨"NotTwice$Sheets", "carry", "(IIIII)V"⟩, 3) := ⟨⟨by decide +kernel, by decide +kernel⟩, List.mem_of_getElem? (i := 410) (by decide +kernel), List.mem_of_getElem? (i := 823) (by decide +kernel), List.mem_of_getElem? (i := 824) (by decide +kernel)⟩
theorem lw_p65 : lw_okq (⟨"NotTwice$Shelf", "isUnder", "(II)Z"⟩, 5) := ⟨⟨by decide +kernel, by decide +kernel⟩, List.mem_of_getElem? (i := 27) (by decide +kernel), List.mem_of_getElem? (i := 836) (by decide +kernel), List.mem_of_getElem? (i := 837) (by decide +kernel)⟩
theorem lw_p66 : lw_okq (⟨"NotTwiceModel", "spell", "(IIIIIIIII)V"⟩, 51) := ⟨⟨by decide +kernel, by decide +kernel⟩, List.mem_of_getElem? (i := 842) (by decide +kernel), List.mem_of_getElem? (i := 848) (by decide +kernel), List.mem_of_getElem? (i := 849) (by decide +kernel)⟩
theorem lw_p67 : lw_okq (⟨"NotTwiceModel", "isStory", "(I)Z"⟩, 51) := ⟨⟨by decide +kernel, by decide +kernel⟩, List.mem_of_getElem? (i := 842) (by decide +kernel), List.mem_of_getElem? (i := 1019) (by decide +kernel), List.mem_of_getElem? (i := 1020) (by decide +kernel)⟩
theorem lw_p68 : lw_okq (⟨"NotTwiceModel", "parts", "(I)V"⟩, 51) := ⟨⟨by decide +kernel, by decide +kernel⟩, List.mem_of_getElem? (i := 842) (by decide +kernel), List.mem_of_getElem? (i := 1023) (by decide +kernel), List.mem_of_getElem? (i := 1024) (by decide +kernel)⟩
theorem lw_p69 : lw_okq (⟨"NotTwiceModel", "isPerson", "(I)Z"⟩, 51) := ⟨⟨by decide +kernel, by decide +kernel⟩, List.mem_of_getElem? (i := 842) (by decide +kernel), List.mem_of_getElem? (i := 1038) (by decide +kernel), List.mem_of_getElem? (i := 1039) (by decide +kernel)⟩
theorem lw_p70 : lw_okq (⟨"NotTwiceModel", "stays", "(I)I"⟩, 51) := ⟨⟨by decide +kernel, by decide +kernel⟩, List.mem_of_getElem? (i := 842) (by decide +kernel), List.mem_of_getElem? (i := 1052) (by decide +kernel), List.mem_of_getElem? (i := 1053) (by decide +kernel)⟩
theorem lw_p71 : lw_okq (⟨"NotTwiceModel", "counts", "(II)I"⟩, 51) := ⟨⟨by decide +kernel, by decide +kernel⟩, List.mem_of_getElem? (i := 842) (by decide +kernel), List.mem_of_getElem? (i := 1056) (by decide +kernel), List.mem_of_getElem? (i := 1057) (by decide +kernel)⟩
theorem lw_p72 : lw_okq (⟨"NotTwiceModel", "known", "(I)I"⟩, 51) := ⟨⟨by decide +kernel, by decide +kernel⟩, List.mem_of_getElem? (i := 842) (by decide +kernel), List.mem_of_getElem? (i := 1065) (by decide +kernel), List.mem_of_getElem? (i := 1066) (by decide +kernel)⟩
theorem lw_p73 : lw_okq (⟨"NotTwiceModel", "read", "(II)I"⟩, 51) := ⟨⟨by decide +kernel, by decide +kernel⟩, List.mem_of_getElem? (i := 842) (by decide +kernel), List.mem_of_getElem? (i := 1077) (by decide +kernel), List.mem_of_getElem? (i := 1078) (by decide +kernel)⟩
theorem lw_p74 : lw_okq (⟨"NotTwiceModel", "next", "()V"⟩, 51) := ⟨⟨by decide +kernel, by decide +kernel⟩, List.mem_of_getElem? (i := 842) (by decide +kernel), List.mem_of_getElem? (i := 1081) (by decide +kernel), List.mem_of_getElem? (i := 1082) (by decide +kernel)⟩
theorem lw_p75 : lw_okq (⟨"NotTwiceModel", "byteAt", "(I)I"⟩, 51) := ⟨⟨by decide +kernel, by decide +kernel⟩, List.mem_of_getElem? (i := 842) (by decide +kernel), List.mem_of_getElem? (i := 1085) (by decide +kernel), List.mem_of_getElem? (i := 1086) (by decide +kernel)⟩
theorem lw_p76 : lw_okq (⟨"NotTwiceModel", "isWord", "(IIIIIIII)Z"⟩, 51) := ⟨⟨by decide +kernel, by decide +kernel⟩, List.mem_of_getElem? (i := 842) (by decide +kernel), List.mem_of_getElem? (i := 1094) (by decide +kernel), List.mem_of_getElem? (i := 1095) (by decide +kernel)⟩
theorem lw_p77 : lw_okq (⟨"NotTwiceModel", "isLetter", "(II)Z"⟩, 51) := ⟨⟨by decide +kernel, by decide +kernel⟩, List.mem_of_getElem? (i := 842) (by decide +kernel), List.mem_of_getElem? (i := 1098) (by decide +kernel), List.mem_of_getElem? (i := 1099) (by decide +kernel)⟩
theorem lw_p78 : lw_okq (⟨"NotTwiceModel", "part", "(Z)I"⟩, 51) := ⟨⟨by decide +kernel, by decide +kernel⟩, List.mem_of_getElem? (i := 842) (by decide +kernel), List.mem_of_getElem? (i := 1102) (by decide +kernel), List.mem_of_getElem? (i := 1103) (by decide +kernel)⟩
theorem lw_p79 : lw_okq (⟨"NotTwiceModel", "fail", "()V"⟩, 51) := ⟨⟨by decide +kernel, by decide +kernel⟩, List.mem_of_getElem? (i := 842) (by decide +kernel), List.mem_of_getElem? (i := 1106) (by decide +kernel), List.mem_of_getElem? (i := 1107) (by decide +kernel)⟩
def lw_privs_5 : List (MethodName × Nat) := [(⟨"NotTwice$Sheets", "carry", "(IIIII)V"⟩, 3), (⟨"NotTwice$Shelf", "isUnder", "(II)Z"⟩, 5), (⟨"NotTwiceModel", "spell", "(IIIIIIIII)V"⟩, 51), (⟨"NotTwiceModel", "isStory", "(I)Z"⟩, 51), (⟨"NotTwiceModel", "parts", "(I)V"⟩, 51), (⟨"NotTwiceModel", "isPerson", "(I)Z"⟩, 51), (⟨"NotTwiceModel", "stays", "(I)I"⟩, 51), (⟨"NotTwiceModel", "counts", "(II)I"⟩, 51), (⟨"NotTwiceModel", "known", "(I)I"⟩, 51), (⟨"NotTwiceModel", "read", "(II)I"⟩, 51), (⟨"NotTwiceModel", "next", "()V"⟩, 51), (⟨"NotTwiceModel", "byteAt", "(I)I"⟩, 51), (⟨"NotTwiceModel", "isWord", "(IIIIIIII)Z"⟩, 51), (⟨"NotTwiceModel", "isLetter", "(II)Z"⟩, 51), (⟨"NotTwiceModel", "part", "(Z)I"⟩, 51), (⟨"NotTwiceModel", "fail", "()V"⟩, 51)]
theorem lw_r5 : ∀ q ∈ lw_privs_5, lw_okq q := List.forall_mem_cons.mpr ⟨lw_p64, List.forall_mem_cons.mpr ⟨lw_p65, List.forall_mem_cons.mpr ⟨lw_p66, List.forall_mem_cons.mpr ⟨lw_p67, List.forall_mem_cons.mpr ⟨lw_p68, List.forall_mem_cons.mpr ⟨lw_p69, List.forall_mem_cons.mpr ⟨lw_p70, List.forall_mem_cons.mpr ⟨lw_p71, List.forall_mem_cons.mpr ⟨lw_p72, List.forall_mem_cons.mpr ⟨lw_p73, List.forall_mem_cons.mpr ⟨lw_p74, List.forall_mem_cons.mpr ⟨lw_p75, List.forall_mem_cons.mpr ⟨lw_p76, List.forall_mem_cons.mpr ⟨lw_p77, List.forall_mem_cons.mpr ⟨lw_p78, List.forall_mem_cons.mpr ⟨lw_p79, fun _ h => absurd h List.not_mem_nil⟩⟩⟩⟩⟩⟩⟩⟩⟩⟩⟩⟩⟩⟩⟩⟩
theorem lw_p80 : lw_okq (⟨"NotTwiceModel", "either", "()I"⟩, 51) := ⟨⟨by decide +kernel, by decide +kernel⟩, List.mem_of_getElem? (i := 842) (by decide +kernel), List.mem_of_getElem? (i := 1110) (by decide +kernel), List.mem_of_getElem? (i := 1111) (by decide +kernel)⟩
theorem lw_p81 : lw_okq (⟨"NotTwiceModel", "both", "()I"⟩, 51) := ⟨⟨by decide +kernel, by decide +kernel⟩, List.mem_of_getElem? (i := 842) (by decide +kernel), List.mem_of_getElem? (i := 1114) (by decide +kernel), List.mem_of_getElem? (i := 1115) (by decide +kernel)⟩
theorem lw_p82 : lw_okq (⟨"NotTwiceModel", "not", "()I"⟩, 51) := ⟨⟨by decide +kernel, by decide +kernel⟩, List.mem_of_getElem? (i := 842) (by decide +kernel), List.mem_of_getElem? (i := 1118) (by decide +kernel), List.mem_of_getElem? (i := 1119) (by decide +kernel)⟩
theorem lw_p83 : lw_okq (⟨"NotTwiceModel", "opens", "()Z"⟩, 51) := ⟨⟨by decide +kernel, by decide +kernel⟩, List.mem_of_getElem? (i := 842) (by decide +kernel), List.mem_of_getElem? (i := 1122) (by decide +kernel), List.mem_of_getElem? (i := 1123) (by decide +kernel)⟩
theorem lw_p84 : lw_okq (⟨"NotTwiceModel", "added", "()I"⟩, 51) := ⟨⟨by decide +kernel, by decide +kernel⟩, List.mem_of_getElem? (i := 842) (by decide +kernel), List.mem_of_getElem? (i := 1126) (by decide +kernel), List.mem_of_getElem? (i := 1127) (by decide +kernel)⟩
theorem lw_p85 : lw_okq (⟨"NotTwiceModel", "term", "()I"⟩, 51) := ⟨⟨by decide +kernel, by decide +kernel⟩, List.mem_of_getElem? (i := 842) (by decide +kernel), List.mem_of_getElem? (i := 1130) (by decide +kernel), List.mem_of_getElem? (i := 1131) (by decide +kernel)⟩
theorem lw_p86 : lw_okq (⟨"NotTwiceModel", "atom", "()I"⟩, 51) := ⟨⟨by decide +kernel, by decide +kernel⟩, List.mem_of_getElem? (i := 842) (by decide +kernel), List.mem_of_getElem? (i := 1134) (by decide +kernel), List.mem_of_getElem? (i := 1135) (by decide +kernel)⟩
theorem lw_p87 : lw_okq (⟨"NotTwiceModel", "isSign", "(I)Z"⟩, 51) := ⟨⟨by decide +kernel, by decide +kernel⟩, List.mem_of_getElem? (i := 842) (by decide +kernel), List.mem_of_getElem? (i := 1138) (by decide +kernel), List.mem_of_getElem? (i := 1139) (by decide +kernel)⟩
theorem lw_p88 : lw_okq (⟨"NotTwiceModel", "name", "()I"⟩, 51) := ⟨⟨by decide +kernel, by decide +kernel⟩, List.mem_of_getElem? (i := 842) (by decide +kernel), List.mem_of_getElem? (i := 1142) (by decide +kernel), List.mem_of_getElem? (i := 1143) (by decide +kernel)⟩
theorem lw_p89 : lw_okq (⟨"NotTwiceModel", "allMay", "(I)I"⟩, 51) := ⟨⟨by decide +kernel, by decide +kernel⟩, List.mem_of_getElem? (i := 842) (by decide +kernel), List.mem_of_getElem? (i := 1159) (by decide +kernel), List.mem_of_getElem? (i := 1160) (by decide +kernel)⟩
theorem lw_p90 : lw_okq (⟨"NotTwiceModel", "teller", "(II)I"⟩, 51) := ⟨⟨by decide +kernel, by decide +kernel⟩, List.mem_of_getElem? (i := 842) (by decide +kernel), List.mem_of_getElem? (i := 1163) (by decide +kernel), List.mem_of_getElem? (i := 1164) (by decide +kernel)⟩
theorem lw_p91 : lw_okq (⟨"NotTwiceModel", "sitting", "(I)I"⟩, 51) := ⟨⟨by decide +kernel, by decide +kernel⟩, List.mem_of_getElem? (i := 842) (by decide +kernel), List.mem_of_getElem? (i := 1167) (by decide +kernel), List.mem_of_getElem? (i := 1168) (by decide +kernel)⟩
theorem lw_p92 : lw_okq (⟨"NotTwiceModel", "mayTell", "(III)Z"⟩, 51) := ⟨⟨by decide +kernel, by decide +kernel⟩, List.mem_of_getElem? (i := 842) (by decide +kernel), List.mem_of_getElem? (i := 1171) (by decide +kernel), List.mem_of_getElem? (i := 1172) (by decide +kernel)⟩
theorem lw_p93 : lw_okq (⟨"NotTwiceModel", "knowers", "(I)I"⟩, 51) := ⟨⟨by decide +kernel, by decide +kernel⟩, List.mem_of_getElem? (i := 842) (by decide +kernel), List.mem_of_getElem? (i := 1175) (by decide +kernel), List.mem_of_getElem? (i := 1176) (by decide +kernel)⟩
theorem lw_p94 : lw_okq (⟨"NotTwiceModel", "says", "(IIII)I"⟩, 51) := ⟨⟨by decide +kernel, by decide +kernel⟩, List.mem_of_getElem? (i := 842) (by decide +kernel), List.mem_of_getElem? (i := 1182) (by decide +kernel), List.mem_of_getElem? (i := 1183) (by decide +kernel)⟩
theorem lw_p95 : lw_okq (⟨"NotTwiceModel", "worthBy", "(III)I"⟩, 51) := ⟨⟨by decide +kernel, by decide +kernel⟩, List.mem_of_getElem? (i := 842) (by decide +kernel), List.mem_of_getElem? (i := 1195) (by decide +kernel), List.mem_of_getElem? (i := 1196) (by decide +kernel)⟩
def lw_privs_6 : List (MethodName × Nat) := [(⟨"NotTwiceModel", "either", "()I"⟩, 51), (⟨"NotTwiceModel", "both", "()I"⟩, 51), (⟨"NotTwiceModel", "not", "()I"⟩, 51), (⟨"NotTwiceModel", "opens", "()Z"⟩, 51), (⟨"NotTwiceModel", "added", "()I"⟩, 51), (⟨"NotTwiceModel", "term", "()I"⟩, 51), (⟨"NotTwiceModel", "atom", "()I"⟩, 51), (⟨"NotTwiceModel", "isSign", "(I)Z"⟩, 51), (⟨"NotTwiceModel", "name", "()I"⟩, 51), (⟨"NotTwiceModel", "allMay", "(I)I"⟩, 51), (⟨"NotTwiceModel", "teller", "(II)I"⟩, 51), (⟨"NotTwiceModel", "sitting", "(I)I"⟩, 51), (⟨"NotTwiceModel", "mayTell", "(III)Z"⟩, 51), (⟨"NotTwiceModel", "knowers", "(I)I"⟩, 51), (⟨"NotTwiceModel", "says", "(IIII)I"⟩, 51), (⟨"NotTwiceModel", "worthBy", "(III)I"⟩, 51)]
theorem lw_r6 : ∀ q ∈ lw_privs_6, lw_okq q := List.forall_mem_cons.mpr ⟨lw_p80, List.forall_mem_cons.mpr ⟨lw_p81, List.forall_mem_cons.mpr ⟨lw_p82, List.forall_mem_cons.mpr ⟨lw_p83, List.forall_mem_cons.mpr ⟨lw_p84, List.forall_mem_cons.mpr ⟨lw_p85, List.forall_mem_cons.mpr ⟨lw_p86, List.forall_mem_cons.mpr ⟨lw_p87, List.forall_mem_cons.mpr ⟨lw_p88, List.forall_mem_cons.mpr ⟨lw_p89, List.forall_mem_cons.mpr ⟨lw_p90, List.forall_mem_cons.mpr ⟨lw_p91, List.forall_mem_cons.mpr ⟨lw_p92, List.forall_mem_cons.mpr ⟨lw_p93, List.forall_mem_cons.mpr ⟨lw_p94, List.forall_mem_cons.mpr ⟨lw_p95, fun _ h => absurd h List.not_mem_nil⟩⟩⟩⟩⟩⟩⟩⟩⟩⟩⟩⟩⟩⟩⟩⟩
theorem lw_p96 : lw_okq (⟨"NotTwiceModel", "best", "(I)I"⟩, 51) := ⟨⟨by decide +kernel, by decide +kernel⟩, List.mem_of_getElem? (i := 842) (by decide +kernel), List.mem_of_getElem? (i := 1206) (by decide +kernel), List.mem_of_getElem? (i := 1207) (by decide +kernel)⟩
theorem lw_p97 : lw_okq (⟨"NotTwiceModel", "tellIn", "(III)I"⟩, 51) := ⟨⟨by decide +kernel, by decide +kernel⟩, List.mem_of_getElem? (i := 842) (by decide +kernel), List.mem_of_getElem? (i := 1214) (by decide +kernel), List.mem_of_getElem? (i := 1215) (by decide +kernel)⟩
theorem lw_p98 : lw_okq (⟨"NotTwiceModel", "laysAside", "()V"⟩, 51) := ⟨⟨by decide +kernel, by decide +kernel⟩, List.mem_of_getElem? (i := 842) (by decide +kernel), List.mem_of_getElem? (i := 1226) (by decide +kernel), List.mem_of_getElem? (i := 1227) (by decide +kernel)⟩
theorem lw_p99 : lw_okq (⟨"NotTwiceModel", "canAll", "(II)Z"⟩, 51) := ⟨⟨by decide +kernel, by decide +kernel⟩, List.mem_of_getElem? (i := 842) (by decide +kernel), List.mem_of_getElem? (i := 1230) (by decide +kernel), List.mem_of_getElem? (i := 1231) (by decide +kernel)⟩
theorem lw_p100 : lw_okq (⟨"NotTwiceModel", "laysBack", "()V"⟩, 51) := ⟨⟨by decide +kernel, by decide +kernel⟩, List.mem_of_getElem? (i := 842) (by decide +kernel), List.mem_of_getElem? (i := 1234) (by decide +kernel), List.mem_of_getElem? (i := 1235) (by decide +kernel)⟩
theorem lw_p101 : lw_okq (⟨"NotTwiceModel", "housesWith", "(II)I"⟩, 51) := ⟨⟨by decide +kernel, by decide +kernel⟩, List.mem_of_getElem? (i := 842) (by decide +kernel), List.mem_of_getElem? (i := 1242) (by decide +kernel), List.mem_of_getElem? (i := 1243) (by decide +kernel)⟩
theorem lw_p102 : lw_okq (⟨"NotTwiceModel", "anyMay", "(I)Z"⟩, 51) := ⟨⟨by decide +kernel, by decide +kernel⟩, List.mem_of_getElem? (i := 842) (by decide +kernel), List.mem_of_getElem? (i := 1249) (by decide +kernel), List.mem_of_getElem? (i := 1250) (by decide +kernel)⟩
theorem lw_p103 : lw_okq (⟨"NotTwiceModel", "isTired", "(III)Z"⟩, 51) := ⟨⟨by decide +kernel, by decide +kernel⟩, List.mem_of_getElem? (i := 842) (by decide +kernel), List.mem_of_getElem? (i := 1253) (by decide +kernel), List.mem_of_getElem? (i := 1254) (by decide +kernel)⟩
def lw_privs_7 : List (MethodName × Nat) := [(⟨"NotTwiceModel", "best", "(I)I"⟩, 51), (⟨"NotTwiceModel", "tellIn", "(III)I"⟩, 51), (⟨"NotTwiceModel", "laysAside", "()V"⟩, 51), (⟨"NotTwiceModel", "canAll", "(II)Z"⟩, 51), (⟨"NotTwiceModel", "laysBack", "()V"⟩, 51), (⟨"NotTwiceModel", "housesWith", "(II)I"⟩, 51), (⟨"NotTwiceModel", "anyMay", "(I)Z"⟩, 51), (⟨"NotTwiceModel", "isTired", "(III)Z"⟩, 51)]
theorem lw_r7 : ∀ q ∈ lw_privs_7, lw_okq q := List.forall_mem_cons.mpr ⟨lw_p96, List.forall_mem_cons.mpr ⟨lw_p97, List.forall_mem_cons.mpr ⟨lw_p98, List.forall_mem_cons.mpr ⟨lw_p99, List.forall_mem_cons.mpr ⟨lw_p100, List.forall_mem_cons.mpr ⟨lw_p101, List.forall_mem_cons.mpr ⟨lw_p102, List.forall_mem_cons.mpr ⟨lw_p103, fun _ h => absurd h List.not_mem_nil⟩⟩⟩⟩⟩⟩⟩⟩
def lw_privs : List (MethodName × Nat) := lw_privs_1 ++ (lw_privs_2 ++ (lw_privs_3 ++ (lw_privs_4 ++ (lw_privs_5 ++ (lw_privs_6 ++ (lw_privs_7))))))
def lw_tbl : List Cond := k2_sels lw_privs ++ tables_1
theorem lw_privs_ok : ∀ q ∈ lw_privs, lw_okq q := by
  show ∀ q ∈ lw_privs_1 ++ (lw_privs_2 ++ (lw_privs_3 ++ (lw_privs_4 ++ (lw_privs_5 ++ (lw_privs_6 ++ (lw_privs_7)))))), lw_okq q
  exact List.forall_mem_append.mpr ⟨lw_r1, List.forall_mem_append.mpr ⟨lw_r2, List.forall_mem_append.mpr ⟨lw_r3, List.forall_mem_append.mpr ⟨lw_r4, List.forall_mem_append.mpr ⟨lw_r5, List.forall_mem_append.mpr ⟨lw_r6, lw_r7⟩⟩⟩⟩⟩⟩
-- ===== end of PART A; then your names; then what follows =====
def RX0 : String := "NotTwice$People"
def TX0 : u_T := fun k => match k with
  | 0 => ("NotTwice$People", "shelf", "LNotTwice$Shelf;", true)
  | 1 => ("NotTwice$People", "texts", "LNotTwice$Texts;", true)
  | 2 => ("NotTwice$People", "house", "[I", true)
  | 3 => ("NotTwice$People", "age", "[I", true)
  | 4 => ("NotTwice$People", "tells", "[I", true)
  | 5 => ("NotTwice$People", "heard", "[I", true)
  | 6 => ("NotTwice$People", "since", "[I", true)
  | 7 => ("NotTwice$People", "size", "I", false)
  | 8 => ("NotTwice$People", "night", "I", false)
  | 9 => ("NotTwice$People", "rule", "I", false)
  | 10 => ("NotTwice$People", "many", "I", false)
  | 11 => ("NotTwice$People", "known", "[I", true)
  | 12 => ("NotTwice$People", "knownToOne", "I", false)
  | _ => ("NotTwice$People", "knownToTwo", "I", false)
def tyX0 : Nat → FieldType := fun k => match k with
  | 0 => .object "NotTwice$Shelf"
  | 1 => .object "NotTwice$Texts"
  | 2 => .array .int
  | 3 => .array .int
  | 4 => .array .int
  | 5 => .array .int
  | 6 => .array .int
  | 7 => .int
  | 8 => .int
  | 9 => .int
  | 10 => .int
  | 11 => .array .int
  | 12 => .int
  | _ => .int
abbrev wsX00 : List Cond := u_ws RX0 TX0 14
theorem nmX0 : ∀ a, a < 14 → ∀ b, b < 14 → a ≠ b → (TX0 a).2.1 ≠ (TX0 b).2.1 := by decide +kernel
theorem tyX0_ok : ∀ k, k < 14 → parseFieldDescriptor (TX0 k).2.2.1 = some (tyX0 k) := by decide +kernel
abbrev cX0_init : ByteArray := prog_2_method_1_code
def yX0_init : MethodName := ⟨RX0, "<init>", "(LNotTwice$Shelf;LNotTwice$Texts;)V"⟩
abbrev cX0_has : ByteArray := prog_2_method_2_code
def yX0_has : MethodName := ⟨RX0, "has", "(I)Z"⟩
abbrev cX0_come : ByteArray := prog_2_method_3_code
def yX0_come : MethodName := ⟨RX0, "come", "(II)I"⟩
abbrev cX0_sit : ByteArray := prog_2_method_4_code
def yX0_sit : MethodName := ⟨RX0, "sit", "(III)V"⟩
abbrev cX0_takeAll : ByteArray := prog_2_method_5_code
def yX0_takeAll : MethodName := ⟨RX0, "takeAll", "(LNotTwice$People;)V"⟩
abbrev cX0_goBackTo : ByteArray := prog_2_method_6_code
def yX0_goBackTo : MethodName := ⟨RX0, "goBackTo", "(LNotTwice$People;)V"⟩
abbrev cX0_hear : ByteArray := prog_2_method_7_code
def yX0_hear : MethodName := ⟨RX0, "hear", "(II)V"⟩
abbrev cX0_forget : ByteArray := prog_2_method_8_code
def yX0_forget : MethodName := ⟨RX0, "forget", "(II)V"⟩
abbrev cX0_knows : ByteArray := prog_2_method_9_code
def yX0_knows : MethodName := ⟨RX0, "knows", "(I)I"⟩
abbrev cX0_lookInto : ByteArray := prog_2_method_10_code
def yX0_lookInto : MethodName := ⟨RX0, "lookInto", "(I)V"⟩
abbrev cX0_newToOthers : ByteArray := prog_2_method_11_code
def yX0_newToOthers : MethodName := ⟨RX0, "newToOthers", "(I)I"⟩
abbrev cX0_tellableOf : ByteArray := prog_2_method_12_code
def yX0_tellableOf : MethodName := ⟨RX0, "tellableOf", "(II)I"⟩
abbrev cX0_tellableBy : ByteArray := prog_2_method_13_code
def yX0_tellableBy : MethodName := ⟨RX0, "tellableBy", "(I)I"⟩
abbrev cX0_tellableIn : ByteArray := prog_2_method_14_code
def yX0_tellableIn : MethodName := ⟨RX0, "tellableIn", "(I)I"⟩
abbrev cX0_unheardIn : ByteArray := prog_2_method_15_code
def yX0_unheardIn : MethodName := ⟨RX0, "unheardIn", "(I)I"⟩
abbrev cX0_byWhom : ByteArray := prog_2_method_16_code
def yX0_byWhom : MethodName := ⟨RX0, "byWhom", "(II)I"⟩
abbrev cX0_firstTeller : ByteArray := prog_2_method_17_code
def yX0_firstTeller : MethodName := ⟨RX0, "firstTeller", "(II)I"⟩
abbrev cX0_worthOf : ByteArray := prog_2_method_18_code
def yX0_worthOf : MethodName := ⟨RX0, "worthOf", "(II)J"⟩
abbrev cX0_worthBy : ByteArray := prog_2_method_19_code
def yX0_worthBy : MethodName := ⟨RX0, "worthBy", "(II)J"⟩
abbrev cX0_bestOf : ByteArray := prog_2_method_20_code
def yX0_bestOf : MethodName := ⟨RX0, "bestOf", "(I)I"⟩
abbrev cX0_spend : ByteArray := prog_2_method_21_code
def yX0_spend : MethodName := ⟨RX0, "spend", "(II)I"⟩
abbrev cX0_sleep : ByteArray := prog_2_method_22_code
def yX0_sleep : MethodName := ⟨RX0, "sleep", "()V"⟩
abbrev cX0_value : ByteArray := prog_2_method_23_code
def yX0_value : MethodName := ⟨RX0, "value", "(IIII)I"⟩
abbrev cX0_bounded : ByteArray := prog_2_method_24_code
def yX0_bounded : MethodName := ⟨RX0, "bounded", "(II)I"⟩
def RX1 : String := "NotTwice$Reader"
def TX1 : u_T := fun k => match k with
  | 0 => ("NotTwice$Reader", "tape", "[I", true)
  | 1 => ("NotTwice$Reader", "size", "I", false)
  | 2 => ("NotTwice$Reader", "at", "I", false)
  | 3 => ("NotTwice$Reader", "token", "I", false)
  | 4 => ("NotTwice$Reader", "tokenAt", "I", false)
  | 5 => ("NotTwice$Reader", "open", "I", false)
  | 6 => ("NotTwice$Reader", "code", "[I", true)
  | 7 => ("NotTwice$Reader", "codeSize", "I", false)
  | _ => ("NotTwice$Reader", "partAt", "[I", true)
def tyX1 : Nat → FieldType := fun k => match k with
  | 0 => .array .int
  | 1 => .int
  | 2 => .int
  | 3 => .int
  | 4 => .int
  | 5 => .int
  | 6 => .array .int
  | 7 => .int
  | _ => .array .int
abbrev wsX10 : List Cond := u_ws RX1 TX1 9
theorem nmX1 : ∀ a, a < 9 → ∀ b, b < 9 → a ≠ b → (TX1 a).2.1 ≠ (TX1 b).2.1 := by decide +kernel
theorem tyX1_ok : ∀ k, k < 9 → parseFieldDescriptor (TX1 k).2.2.1 = some (tyX1 k) := by decide +kernel
abbrev cX1_init : ByteArray := prog_3_method_1_code
def yX1_init : MethodName := ⟨RX1, "<init>", "()V"⟩
abbrev cX1_put : ByteArray := prog_3_method_2_code
def yX1_put : MethodName := ⟨RX1, "put", "(I)I"⟩
abbrev cX1_putFirstText : ByteArray := prog_3_method_3_code
def yX1_putFirstText : MethodName := ⟨RX1, "putFirstText", "()V"⟩
abbrev cX1_empty : ByteArray := prog_3_method_4_code
def yX1_empty : MethodName := ⟨RX1, "empty", "()V"⟩
abbrev cX1_place : ByteArray := prog_3_method_5_code
def yX1_place : MethodName := ⟨RX1, "place", "()I"⟩
abbrev cX1_made : ByteArray := prog_3_method_6_code
def yX1_made : MethodName := ⟨RX1, "made", "()LNotTwice$Rule;"⟩
abbrev cX1_reads : ByteArray := prog_3_method_7_code
def yX1_reads : MethodName := ⟨RX1, "reads", "()Z"⟩
abbrev cX1_readsLevel : ByteArray := prog_3_method_8_code
def yX1_readsLevel : MethodName := ⟨RX1, "readsLevel", "(I)Z"⟩
abbrev cX1_levelOf : ByteArray := prog_3_method_9_code
def yX1_levelOf : MethodName := ⟨RX1, "levelOf", "(I)I"⟩
abbrev cX1_readsOpened : ByteArray := prog_3_method_10_code
def yX1_readsOpened : MethodName := ⟨RX1, "readsOpened", "()Z"⟩
abbrev cX1_readsPlain : ByteArray := prog_3_method_11_code
def yX1_readsPlain : MethodName := ⟨RX1, "readsPlain", "()Z"⟩
abbrev cX1_takes : ByteArray := prog_3_method_12_code
def yX1_takes : MethodName := ⟨RX1, "takes", "(I)Z"⟩
abbrev cX1_write : ByteArray := prog_3_method_13_code
def yX1_write : MethodName := ⟨RX1, "write", "(I)V"⟩
abbrev cX1_step : ByteArray := prog_3_method_14_code
def yX1_step : MethodName := ⟨RX1, "step", "()V"⟩
abbrev cX1_isLetter : ByteArray := prog_3_method_15_code
def yX1_isLetter : MethodName := ⟨RX1, "isLetter", "(I)Z"⟩
abbrev cX1_isDigit : ByteArray := prog_3_method_16_code
def yX1_isDigit : MethodName := ⟨RX1, "isDigit", "(I)Z"⟩
abbrev cX1_numeral : ByteArray := prog_3_method_17_code
def yX1_numeral : MethodName := ⟨RX1, "numeral", "()I"⟩
abbrev cX1_word : ByteArray := prog_3_method_18_code
def yX1_word : MethodName := ⟨RX1, "word", "()I"⟩
def RX2 : String := "NotTwice$Rule"
def TX2 : u_T := fun k => match k with
  | 0 => ("NotTwice$Rule", "code", "[I", true)
  | 1 => ("NotTwice$Rule", "paysAt", "I", true)
  | _ => ("NotTwice$Rule", "tiresAt", "I", true)
def tyX2 : Nat → FieldType := fun k => match k with
  | 0 => .array .int
  | 1 => .int
  | _ => .int
abbrev wsX20 : List Cond := u_ws RX2 TX2 3
theorem nmX2 : ∀ a, a < 3 → ∀ b, b < 3 → a ≠ b → (TX2 a).2.1 ≠ (TX2 b).2.1 := by decide +kernel
theorem tyX2_ok : ∀ k, k < 3 → parseFieldDescriptor (TX2 k).2.2.1 = some (tyX2 k) := by decide +kernel
abbrev cX2_init : ByteArray := prog_4_method_1_code
def yX2_init : MethodName := ⟨RX2, "<init>", "([IIII)V"⟩
abbrev cX2_value : ByteArray := prog_4_method_2_code
def yX2_value : MethodName := ⟨RX2, "value", "(I[I[I)I"⟩
abbrev cX2_joined : ByteArray := prog_4_method_3_code
def yX2_joined : MethodName := ⟨RX2, "joined", "(III)I"⟩
def RX3 : String := "NotTwice$Seating"
def TX3 : u_T := fun k => match k with
  | 0 => ("NotTwice$Seating", "people", "LNotTwice$People;", true)
  | 1 => ("NotTwice$Seating", "seat", "[I", true)
  | 2 => ("NotTwice$Seating", "bestSeat", "[I", true)
  | 3 => ("NotTwice$Seating", "best", "I", false)
  | 4 => ("NotTwice$Seating", "known", "[I", true)
  | 5 => ("NotTwice$Seating", "awake", "[I", true)
  | 6 => ("NotTwice$Seating", "many", "[I", true)
  | 7 => ("NotTwice$Seating", "knownToOne", "[I", true)
  | _ => ("NotTwice$Seating", "knownToTwo", "[I", true)
def tyX3 : Nat → FieldType := fun k => match k with
  | 0 => .object "NotTwice$People"
  | 1 => .array .int
  | 2 => .array .int
  | 3 => .int
  | 4 => .array .int
  | 5 => .array .int
  | 6 => .array .int
  | 7 => .array .int
  | _ => .array .int
abbrev wsX30 : List Cond := u_ws RX3 TX3 9
theorem nmX3 : ∀ a, a < 9 → ∀ b, b < 9 → a ≠ b → (TX3 a).2.1 ≠ (TX3 b).2.1 := by decide +kernel
theorem tyX3_ok : ∀ k, k < 9 → parseFieldDescriptor (TX3 k).2.2.1 = some (tyX3 k) := by decide +kernel
abbrev cX3_init : ByteArray := prog_5_method_1_code
def yX3_init : MethodName := ⟨RX3, "<init>", "(LNotTwice$People;)V"⟩
abbrev cX3_waysOver : ByteArray := prog_5_method_2_code
def yX3_waysOver : MethodName := ⟨RX3, "waysOver", "(I)I"⟩
abbrev cX3_search : ByteArray := prog_5_method_3_code
def yX3_search : MethodName := ⟨RX3, "search", "(I)V"⟩
abbrev cX3_prepare : ByteArray := prog_5_method_4_code
def yX3_prepare : MethodName := ⟨RX3, "prepare", "()V"⟩
abbrev cX3_awakeOf : ByteArray := prog_5_method_5_code
def yX3_awakeOf : MethodName := ⟨RX3, "awakeOf", "(II)I"⟩
abbrev cX3_nextWay : ByteArray := prog_5_method_6_code
def yX3_nextWay : MethodName := ⟨RX3, "nextWay", "(I)V"⟩
abbrev cX3_housesWithStory : ByteArray := prog_5_method_7_code
def yX3_housesWithStory : MethodName := ⟨RX3, "housesWithStory", "(I)I"⟩
abbrev cX3_fillHouses : ByteArray := prog_5_method_8_code
def yX3_fillHouses : MethodName := ⟨RX3, "fillHouses", "(I)V"⟩
def RX4 : String := "NotTwice$Sheets"
def TX4 : u_T := fun k => match k with
  | 0 => ("NotTwice$Sheets", "sort", "[I", true)
  | 1 => ("NotTwice$Sheets", "size", "[I", true)
  | _ => ("NotTwice$Sheets", "items", "[I", true)
def tyX4 : Nat → FieldType := fun k => match k with
  | 0 => .array .int
  | 1 => .array .int
  | _ => .array .int
abbrev wsX40 : List Cond := u_ws RX4 TX4 3
theorem nmX4 : ∀ a, a < 3 → ∀ b, b < 3 → a ≠ b → (TX4 a).2.1 ≠ (TX4 b).2.1 := by decide +kernel
theorem tyX4_ok : ∀ k, k < 3 → parseFieldDescriptor (TX4 k).2.2.1 = some (tyX4 k) := by decide +kernel
abbrev cX4_init : ByteArray := prog_6_method_1_code
def yX4_init : MethodName := ⟨RX4, "<init>", "()V"⟩
abbrev cX4_has : ByteArray := prog_6_method_2_code
def yX4_has : MethodName := ⟨RX4, "has", "(I)Z"⟩
abbrev cX4_isMissing : ByteArray := prog_6_method_3_code
def yX4_isMissing : MethodName := ⟨RX4, "isMissing", "(I)Z"⟩
abbrev cX4_reaches : ByteArray := prog_6_method_4_code
def yX4_reaches : MethodName := ⟨RX4, "reaches", "(II)Z"⟩
abbrev cX4_hasRun : ByteArray := prog_6_method_5_code
def yX4_hasRun : MethodName := ⟨RX4, "hasRun", "(III)Z"⟩
abbrev cX4_lay : ByteArray := prog_6_method_6_code
def yX4_lay : MethodName := ⟨RX4, "lay", "(III)V"⟩
abbrev cX4_at : ByteArray := prog_6_method_7_code
def yX4_at : MethodName := ⟨RX4, "at", "(II)I"⟩
abbrev cX4_write : ByteArray := prog_6_method_8_code
def yX4_write : MethodName := ⟨RX4, "write", "(III)V"⟩
abbrev cX4_carry : ByteArray := prog_6_method_9_code
def yX4_carry : MethodName := ⟨RX4, "carry", "(IIIII)V"⟩
def RX5 : String := "NotTwice$Shelf"
def TX5 : u_T := fun k => match k with
  | 0 => ("NotTwice$Shelf", "kind", "[I", true)
  | 1 => ("NotTwice$Shelf", "worth", "[I", true)
  | 2 => ("NotTwice$Shelf", "number", "[I", true)
  | 3 => ("NotTwice$Shelf", "twin", "[I", true)
  | _ => ("NotTwice$Shelf", "size", "I", false)
def tyX5 : Nat → FieldType := fun k => match k with
  | 0 => .array .int
  | 1 => .array .int
  | 2 => .array .int
  | 3 => .array .int
  | _ => .int
abbrev wsX50 : List Cond := u_ws RX5 TX5 5
theorem nmX5 : ∀ a, a < 5 → ∀ b, b < 5 → a ≠ b → (TX5 a).2.1 ≠ (TX5 b).2.1 := by decide +kernel
theorem tyX5_ok : ∀ k, k < 5 → parseFieldDescriptor (TX5 k).2.2.1 = some (tyX5 k) := by decide +kernel
abbrev cX5_init : ByteArray := prog_7_method_1_code
def yX5_init : MethodName := ⟨RX5, "<init>", "()V"⟩
abbrev cX5_has : ByteArray := prog_7_method_2_code
def yX5_has : MethodName := ⟨RX5, "has", "(I)Z"⟩
abbrev cX5_all : ByteArray := prog_7_method_3_code
def yX5_all : MethodName := ⟨RX5, "all", "()I"⟩
abbrev cX5_add : ByteArray := prog_7_method_4_code
def yX5_add : MethodName := ⟨RX5, "add", "(III)I"⟩
abbrev cX5_join : ByteArray := prog_7_method_5_code
def yX5_join : MethodName := ⟨RX5, "join", "(II)V"⟩
abbrev cX5_part : ByteArray := prog_7_method_6_code
def yX5_part : MethodName := ⟨RX5, "part", "(I)V"⟩
abbrev cX5_withTwins : ByteArray := prog_7_method_7_code
def yX5_withTwins : MethodName := ⟨RX5, "withTwins", "(I)I"⟩
abbrev cX5_counts : ByteArray := prog_7_method_8_code
def yX5_counts : MethodName := ⟨RX5, "counts", "(II)I"⟩
abbrev cX5_stays : ByteArray := prog_7_method_9_code
def yX5_stays : MethodName := ⟨RX5, "stays", "(I)I"⟩
abbrev cX5_isUnder : ByteArray := prog_7_method_10_code
def yX5_isUnder : MethodName := ⟨RX5, "isUnder", "(II)Z"⟩
def RX6 : String := "NotTwice$Sign"
def TX6 : u_T := fun k => match k with
  | _ => ("", "", "", false)
def tyX6 : Nat → FieldType := fun k => match k with
  | _ => .int
abbrev wsX60 : List Cond := u_ws RX6 TX6 0
theorem nmX6 : ∀ a, a < 0 → ∀ b, b < 0 → a ≠ b → (TX6 a).2.1 ≠ (TX6 b).2.1 := by decide +kernel
theorem tyX6_ok : ∀ k, k < 0 → parseFieldDescriptor (TX6 k).2.2.1 = some (tyX6 k) := by decide +kernel
def RX7 : String := "NotTwice$Texts"
def TX7 : u_T := fun k => match k with
  | 0 => ("NotTwice$Texts", "rules", "[LNotTwice$Rule;", true)
  | 1 => ("NotTwice$Texts", "names", "[I", true)
  | 2 => ("NotTwice$Texts", "stack", "[I", true)
  | _ => ("NotTwice$Texts", "size", "I", false)
def tyX7 : Nat → FieldType := fun k => match k with
  | 0 => .array (.object "NotTwice$Rule")
  | 1 => .array .int
  | 2 => .array .int
  | _ => .int
abbrev wsX70 : List Cond := u_ws RX7 TX7 4
theorem nmX7 : ∀ a, a < 4 → ∀ b, b < 4 → a ≠ b → (TX7 a).2.1 ≠ (TX7 b).2.1 := by decide +kernel
theorem tyX7_ok : ∀ k, k < 4 → parseFieldDescriptor (TX7 k).2.2.1 = some (tyX7 k) := by decide +kernel
abbrev cX7_init : ByteArray := prog_9_method_1_code
def yX7_init : MethodName := ⟨RX7, "<init>", "()V"⟩
abbrev cX7_has : ByteArray := prog_9_method_2_code
def yX7_has : MethodName := ⟨RX7, "has", "(I)Z"⟩
abbrev cX7_at : ByteArray := prog_9_method_3_code
def yX7_at : MethodName := ⟨RX7, "at", "(I)LNotTwice$Rule;"⟩
abbrev cX7_isFull : ByteArray := prog_9_method_4_code
def yX7_isFull : MethodName := ⟨RX7, "isFull", "()Z"⟩
abbrev cX7_add : ByteArray := prog_9_method_5_code
def yX7_add : MethodName := ⟨RX7, "add", "(LNotTwice$Rule;)I"⟩
def RX8 : String := "NotTwice"
def TX8 : u_T := fun k => match k with
  | 0 => ("NotTwice", "shelf", "LNotTwice$Shelf;", true)
  | 1 => ("NotTwice", "texts", "LNotTwice$Texts;", true)
  | 2 => ("NotTwice", "reader", "LNotTwice$Reader;", true)
  | 3 => ("NotTwice", "now", "LNotTwice$People;", true)
  | 4 => ("NotTwice", "thought", "LNotTwice$People;", true)
  | 5 => ("NotTwice", "image", "LNotTwice$People;", true)
  | 6 => ("NotTwice", "seating", "LNotTwice$Seating;", true)
  | 7 => ("NotTwice", "sheets", "LNotTwice$Sheets;", true)
  | _ => ("NotTwice", "imageKept", "Z", false)
def tyX8 : Nat → FieldType := fun k => match k with
  | 0 => .object "NotTwice$Shelf"
  | 1 => .object "NotTwice$Texts"
  | 2 => .object "NotTwice$Reader"
  | 3 => .object "NotTwice$People"
  | 4 => .object "NotTwice$People"
  | 5 => .object "NotTwice$People"
  | 6 => .object "NotTwice$Seating"
  | 7 => .object "NotTwice$Sheets"
  | _ => .boolean
abbrev wsX80 : List Cond := u_ws RX8 TX8 9
theorem nmX8 : ∀ a, a < 9 → ∀ b, b < 9 → a ≠ b → (TX8 a).2.1 ≠ (TX8 b).2.1 := by decide +kernel
theorem tyX8_ok : ∀ k, k < 9 → parseFieldDescriptor (TX8 k).2.2.1 = some (tyX8 k) := by decide +kernel
abbrev cX8_init : ByteArray := prog_1_method_1_code
def yX8_init : MethodName := ⟨RX8, "<init>", "()V"⟩
abbrev cX8_story : ByteArray := prog_1_method_2_code
def yX8_story : MethodName := ⟨RX8, "story", "(III)I"⟩
abbrev cX8_twin : ByteArray := prog_1_method_3_code
def yX8_twin : MethodName := ⟨RX8, "twin", "(II)I"⟩
abbrev cX8_person : ByteArray := prog_1_method_4_code
def yX8_person : MethodName := ⟨RX8, "person", "(II)I"⟩
abbrev cX8_set : ByteArray := prog_1_method_5_code
def yX8_set : MethodName := ⟨RX8, "set", "(III)I"⟩
abbrev cX8_hears : ByteArray := prog_1_method_6_code
def yX8_hears : MethodName := ⟨RX8, "hears", "(III)I"⟩
abbrev cX8_told : ByteArray := prog_1_method_7_code
def yX8_told : MethodName := ⟨RX8, "told", "(III)I"⟩
abbrev cX8_one : ByteArray := prog_1_method_8_code
def yX8_one : MethodName := ⟨RX8, "one", "(II)I"⟩
abbrev cX8_feed : ByteArray := prog_1_method_9_code
def yX8_feed : MethodName := ⟨RX8, "feed", "(I)I"⟩
abbrev cX8_text : ByteArray := prog_1_method_10_code
def yX8_text : MethodName := ⟨RX8, "text", "()I"⟩
abbrev cX8_force : ByteArray := prog_1_method_11_code
def yX8_force : MethodName := ⟨RX8, "force", "(I)I"⟩
abbrev cX8_may : ByteArray := prog_1_method_12_code
def yX8_may : MethodName := ⟨RX8, "may", "(I)I"⟩
abbrev cX8_by : ByteArray := prog_1_method_13_code
def yX8_by : MethodName := ⟨RX8, "by", "(II)I"⟩
abbrev cX8_worth : ByteArray := prog_1_method_14_code
def yX8_worth : MethodName := ⟨RX8, "worth", "(II)J"⟩
abbrev cX8_most : ByteArray := prog_1_method_15_code
def yX8_most : MethodName := ⟨RX8, "most", "(II)J"⟩
abbrev cX8_tell : ByteArray := prog_1_method_16_code
def yX8_tell : MethodName := ⟨RX8, "tell", "(II)I"⟩
abbrev cX8_pass : ByteArray := prog_1_method_17_code
def yX8_pass : MethodName := ⟨RX8, "pass", "()I"⟩
abbrev cX8_goesOn : ByteArray := prog_1_method_18_code
def yX8_goesOn : MethodName := ⟨RX8, "goesOn", "(II)I"⟩
abbrev cX8_spread : ByteArray := prog_1_method_19_code
def yX8_spread : MethodName := ⟨RX8, "spread", "(II)I"⟩
abbrev cX8_keepAway : ByteArray := prog_1_method_20_code
def yX8_keepAway : MethodName := ⟨RX8, "keepAway", "(I)I"⟩
abbrev cX8_send : ByteArray := prog_1_method_21_code
def yX8_send : MethodName := ⟨RX8, "send", "(II)I"⟩
abbrev cX8_stranger : ByteArray := prog_1_method_22_code
def yX8_stranger : MethodName := ⟨RX8, "stranger", "(III)I"⟩
abbrev cX8_left : ByteArray := prog_1_method_23_code
def yX8_left : MethodName := ⟨RX8, "left", "()I"⟩
abbrev cX8_judge : ByteArray := prog_1_method_24_code
def yX8_judge : MethodName := ⟨RX8, "judge", "(I)I"⟩
abbrev cX8_drawn : ByteArray := prog_1_method_25_code
def yX8_drawn : MethodName := ⟨RX8, "drawn", "(II)I"⟩
abbrev cX8_image : ByteArray := prog_1_method_26_code
def yX8_image : MethodName := ⟨RX8, "image", "()I"⟩
abbrev cX8_back : ByteArray := prog_1_method_27_code
def yX8_back : MethodName := ⟨RX8, "back", "()I"⟩
abbrev cX8_count : ByteArray := prog_1_method_28_code
def yX8_count : MethodName := ⟨RX8, "count", "(I)I"⟩
abbrev cX8_sheet : ByteArray := prog_1_method_29_code
def yX8_sheet : MethodName := ⟨RX8, "sheet", "(III)I"⟩
abbrev cX8_cell : ByteArray := prog_1_method_30_code
def yX8_cell : MethodName := ⟨RX8, "cell", "(III)I"⟩
abbrev cX8_copy : ByteArray := prog_1_method_31_code
def yX8_copy : MethodName := ⟨RX8, "copy", "(IIIII)I"⟩
abbrev cX8_people : ByteArray := prog_1_method_32_code
def yX8_people : MethodName := ⟨RX8, "people", "(IIII)I"⟩
abbrev cX8_taken : ByteArray := prog_1_method_33_code
def yX8_taken : MethodName := ⟨RX8, "taken", "(II)I"⟩
abbrev cX8_isBelow : ByteArray := prog_1_method_34_code
def yX8_isBelow : MethodName := ⟨RX8, "isBelow", "(II)Z"⟩
abbrev cX8_isHouse : ByteArray := prog_1_method_35_code
def yX8_isHouse : MethodName := ⟨RX8, "isHouse", "(I)Z"⟩
abbrev cX8_put : ByteArray := prog_1_method_36_code
def yX8_put : MethodName := ⟨RX8, "put", "([III)I"⟩
abbrev cX8_canTellAll : ByteArray := prog_1_method_37_code
def yX8_canTellAll : MethodName := ⟨RX8, "canTellAll", "(II)Z"⟩
def RX9 : String := "NotTwiceModel"
def TX9 : u_T := fun k => match k with
  | 0 => ("NotTwiceModel", "thrown", "I", false)
  | 1 => ("NotTwiceModel", "texts", "[I", true)
  | 2 => ("NotTwiceModel", "textSize", "[I", true)
  | 3 => ("NotTwiceModel", "textCount", "I", false)
  | 4 => ("NotTwiceModel", "rule", "I", false)
  | 5 => ("NotTwiceModel", "tape", "[I", true)
  | 6 => ("NotTwiceModel", "taped", "I", false)
  | 7 => ("NotTwiceModel", "kinds", "[I", true)
  | 8 => ("NotTwiceModel", "worths", "[I", true)
  | 9 => ("NotTwiceModel", "numbers", "[I", true)
  | 10 => ("NotTwiceModel", "twins", "[I", true)
  | 11 => ("NotTwiceModel", "storyMany", "I", false)
  | 12 => ("NotTwiceModel", "ages", "[I", true)
  | 13 => ("NotTwiceModel", "tells", "[I", true)
  | 14 => ("NotTwiceModel", "heard", "[I", true)
  | 15 => ("NotTwiceModel", "houses", "[I", true)
  | 16 => ("NotTwiceModel", "since", "[I", true)
  | 17 => ("NotTwiceModel", "many", "I", false)
  | 18 => ("NotTwiceModel", "night", "I", false)
  | 19 => ("NotTwiceModel", "ofAge", "I", false)
  | 20 => ("NotTwiceModel", "ofWorth", "I", false)
  | 21 => ("NotTwiceModel", "ofHeard", "I", false)
  | 22 => ("NotTwiceModel", "ofMany", "I", false)
  | 23 => ("NotTwiceModel", "ofNight", "I", false)
  | 24 => ("NotTwiceModel", "ofOwn", "I", false)
  | 25 => ("NotTwiceModel", "from", "I", false)
  | 26 => ("NotTwiceModel", "size", "I", false)
  | 27 => ("NotTwiceModel", "here", "I", false)
  | 28 => ("NotTwiceModel", "token", "I", false)
  | 29 => ("NotTwiceModel", "tokenAt", "I", false)
  | 30 => ("NotTwiceModel", "tokenWorth", "J", false)
  | 31 => ("NotTwiceModel", "open", "I", false)
  | 32 => ("NotTwiceModel", "bad", "Z", false)
  | 33 => ("NotTwiceModel", "fault", "I", false)
  | 34 => ("NotTwiceModel", "bestWorth", "I", false)
  | 35 => ("NotTwiceModel", "heardWas", "[I", true)
  | 36 => ("NotTwiceModel", "housesWas", "[I", true)
  | 37 => ("NotTwiceModel", "sinceWas", "[I", true)
  | 38 => ("NotTwiceModel", "nightWas", "I", false)
  | 39 => ("NotTwiceModel", "knowersOf", "[I", true)
  | 40 => ("NotTwiceModel", "tiredOf", "[I", true)
  | 41 => ("NotTwiceModel", "heardKept", "[I", true)
  | 42 => ("NotTwiceModel", "housesKept", "[I", true)
  | 43 => ("NotTwiceModel", "sinceKept", "[I", true)
  | 44 => ("NotTwiceModel", "manyKept", "I", false)
  | 45 => ("NotTwiceModel", "nightKept", "I", false)
  | 46 => ("NotTwiceModel", "ruleKept", "I", false)
  | 47 => ("NotTwiceModel", "isThere", "[Z", true)
  | 48 => ("NotTwiceModel", "sorts", "[I", true)
  | 49 => ("NotTwiceModel", "sheetSize", "[I", true)
  | _ => ("NotTwiceModel", "items", "[I", true)
def tyX9 : Nat → FieldType := fun k => match k with
  | 0 => .int
  | 1 => .array .int
  | 2 => .array .int
  | 3 => .int
  | 4 => .int
  | 5 => .array .int
  | 6 => .int
  | 7 => .array .int
  | 8 => .array .int
  | 9 => .array .int
  | 10 => .array .int
  | 11 => .int
  | 12 => .array .int
  | 13 => .array .int
  | 14 => .array .int
  | 15 => .array .int
  | 16 => .array .int
  | 17 => .int
  | 18 => .int
  | 19 => .int
  | 20 => .int
  | 21 => .int
  | 22 => .int
  | 23 => .int
  | 24 => .int
  | 25 => .int
  | 26 => .int
  | 27 => .int
  | 28 => .int
  | 29 => .int
  | 30 => .long
  | 31 => .int
  | 32 => .boolean
  | 33 => .int
  | 34 => .int
  | 35 => .array .int
  | 36 => .array .int
  | 37 => .array .int
  | 38 => .int
  | 39 => .array .int
  | 40 => .array .int
  | 41 => .array .int
  | 42 => .array .int
  | 43 => .array .int
  | 44 => .int
  | 45 => .int
  | 46 => .int
  | 47 => .array .boolean
  | 48 => .array .int
  | 49 => .array .int
  | _ => .array .int
abbrev wsX90 : List Cond := u_ws RX9 TX9 51
theorem nmX9 : ∀ a, a < 51 → ∀ b, b < 51 → a ≠ b → (TX9 a).2.1 ≠ (TX9 b).2.1 := by decide +kernel
theorem tyX9_ok : ∀ k, k < 51 → parseFieldDescriptor (TX9 k).2.2.1 = some (tyX9 k) := by decide +kernel
abbrev cX9_in : ByteArray := prog_11_method_2_code
def yX9_in : MethodName := ⟨RX9, "in", "(JJJ)Z"⟩
abbrev cX9_within : ByteArray := prog_11_method_3_code
def yX9_within : MethodName := ⟨RX9, "within", "(III)I"⟩
abbrev cX9_bitsOf : ByteArray := prog_11_method_4_code
def yX9_bitsOf : MethodName := ⟨RX9, "bitsOf", "(I)I"⟩
abbrev cX9_init : ByteArray := prog_11_method_5_code
def yX9_init : MethodName := ⟨RX9, "<init>", "()V"⟩
abbrev cX9_spell : ByteArray := prog_11_method_6_code
def yX9_spell : MethodName := ⟨RX9, "spell", "(IIIIIIIII)V"⟩
abbrev cX9_isStory : ByteArray := prog_11_method_7_code
def yX9_isStory : MethodName := ⟨RX9, "isStory", "(I)Z"⟩
abbrev cX9_isPerson : ByteArray := prog_11_method_8_code
def yX9_isPerson : MethodName := ⟨RX9, "isPerson", "(I)Z"⟩
abbrev cX9_isHouse : ByteArray := prog_11_method_9_code
def yX9_isHouse : MethodName := ⟨RX9, "isHouse", "(I)Z"⟩
abbrev cX9_story : ByteArray := prog_11_method_10_code
def yX9_story : MethodName := ⟨RX9, "story", "(III)I"⟩
abbrev cX9_parts : ByteArray := prog_11_method_11_code
def yX9_parts : MethodName := ⟨RX9, "parts", "(I)V"⟩
abbrev cX9_twin : ByteArray := prog_11_method_12_code
def yX9_twin : MethodName := ⟨RX9, "twin", "(II)I"⟩
abbrev cX9_person : ByteArray := prog_11_method_13_code
def yX9_person : MethodName := ⟨RX9, "person", "(II)I"⟩
abbrev cX9_set : ByteArray := prog_11_method_14_code
def yX9_set : MethodName := ⟨RX9, "set", "(III)I"⟩
abbrev cX9_hears : ByteArray := prog_11_method_15_code
def yX9_hears : MethodName := ⟨RX9, "hears", "(III)I"⟩
abbrev cX9_counts : ByteArray := prog_11_method_16_code
def yX9_counts : MethodName := ⟨RX9, "counts", "(II)I"⟩
abbrev cX9_stays : ByteArray := prog_11_method_17_code
def yX9_stays : MethodName := ⟨RX9, "stays", "(I)I"⟩
abbrev cX9_told : ByteArray := prog_11_method_18_code
def yX9_told : MethodName := ⟨RX9, "told", "(III)I"⟩
abbrev cX9_known : ByteArray := prog_11_method_19_code
def yX9_known : MethodName := ⟨RX9, "known", "(I)I"⟩
abbrev cX9_one : ByteArray := prog_11_method_20_code
def yX9_one : MethodName := ⟨RX9, "one", "(II)I"⟩
abbrev cX9_feed : ByteArray := prog_11_method_21_code
def yX9_feed : MethodName := ⟨RX9, "feed", "(I)I"⟩
abbrev cX9_byteAt : ByteArray := prog_11_method_22_code
def yX9_byteAt : MethodName := ⟨RX9, "byteAt", "(I)I"⟩
abbrev cX9_next : ByteArray := prog_11_method_23_code
def yX9_next : MethodName := ⟨RX9, "next", "()V"⟩
abbrev cX9_fail : ByteArray := prog_11_method_24_code
def yX9_fail : MethodName := ⟨RX9, "fail", "()V"⟩
abbrev cX9_isLetter : ByteArray := prog_11_method_25_code
def yX9_isLetter : MethodName := ⟨RX9, "isLetter", "(II)Z"⟩
abbrev cX9_isWord : ByteArray := prog_11_method_26_code
def yX9_isWord : MethodName := ⟨RX9, "isWord", "(IIIIIIII)Z"⟩
abbrev cX9_isSign : ByteArray := prog_11_method_27_code
def yX9_isSign : MethodName := ⟨RX9, "isSign", "(I)Z"⟩
abbrev cX9_opens : ByteArray := prog_11_method_28_code
def yX9_opens : MethodName := ⟨RX9, "opens", "()Z"⟩
abbrev cX9_name : ByteArray := prog_11_method_29_code
def yX9_name : MethodName := ⟨RX9, "name", "()I"⟩
abbrev cX9_atom : ByteArray := prog_11_method_30_code
def yX9_atom : MethodName := ⟨RX9, "atom", "()I"⟩
abbrev cX9_term : ByteArray := prog_11_method_31_code
def yX9_term : MethodName := ⟨RX9, "term", "()I"⟩
abbrev cX9_added : ByteArray := prog_11_method_32_code
def yX9_added : MethodName := ⟨RX9, "added", "()I"⟩
abbrev cX9_not : ByteArray := prog_11_method_33_code
def yX9_not : MethodName := ⟨RX9, "not", "()I"⟩
abbrev cX9_both : ByteArray := prog_11_method_34_code
def yX9_both : MethodName := ⟨RX9, "both", "()I"⟩
abbrev cX9_either : ByteArray := prog_11_method_35_code
def yX9_either : MethodName := ⟨RX9, "either", "()I"⟩
abbrev cX9_part : ByteArray := prog_11_method_36_code
def yX9_part : MethodName := ⟨RX9, "part", "(Z)I"⟩
abbrev cX9_read : ByteArray := prog_11_method_37_code
def yX9_read : MethodName := ⟨RX9, "read", "(II)I"⟩
abbrev cX9_text : ByteArray := prog_11_method_38_code
def yX9_text : MethodName := ⟨RX9, "text", "()I"⟩
abbrev cX9_force : ByteArray := prog_11_method_39_code
def yX9_force : MethodName := ⟨RX9, "force", "(I)I"⟩
abbrev cX9_says : ByteArray := prog_11_method_40_code
def yX9_says : MethodName := ⟨RX9, "says", "(IIII)I"⟩
abbrev cX9_sitting : ByteArray := prog_11_method_41_code
def yX9_sitting : MethodName := ⟨RX9, "sitting", "(I)I"⟩
abbrev cX9_knowers : ByteArray := prog_11_method_42_code
def yX9_knowers : MethodName := ⟨RX9, "knowers", "(I)I"⟩
abbrev cX9_mayTell : ByteArray := prog_11_method_43_code
def yX9_mayTell : MethodName := ⟨RX9, "mayTell", "(III)Z"⟩
abbrev cX9_teller : ByteArray := prog_11_method_44_code
def yX9_teller : MethodName := ⟨RX9, "teller", "(II)I"⟩
abbrev cX9_allMay : ByteArray := prog_11_method_45_code
def yX9_allMay : MethodName := ⟨RX9, "allMay", "(I)I"⟩
abbrev cX9_may : ByteArray := prog_11_method_46_code
def yX9_may : MethodName := ⟨RX9, "may", "(I)I"⟩
abbrev cX9_by : ByteArray := prog_11_method_47_code
def yX9_by : MethodName := ⟨RX9, "by", "(II)I"⟩
abbrev cX9_worthBy : ByteArray := prog_11_method_48_code
def yX9_worthBy : MethodName := ⟨RX9, "worthBy", "(III)I"⟩
abbrev cX9_worth : ByteArray := prog_11_method_49_code
def yX9_worth : MethodName := ⟨RX9, "worth", "(II)J"⟩
abbrev cX9_best : ByteArray := prog_11_method_50_code
def yX9_best : MethodName := ⟨RX9, "best", "(I)I"⟩
abbrev cX9_most : ByteArray := prog_11_method_51_code
def yX9_most : MethodName := ⟨RX9, "most", "(II)J"⟩
abbrev cX9_tellIn : ByteArray := prog_11_method_52_code
def yX9_tellIn : MethodName := ⟨RX9, "tellIn", "(III)I"⟩
abbrev cX9_tell : ByteArray := prog_11_method_53_code
def yX9_tell : MethodName := ⟨RX9, "tell", "(II)I"⟩
abbrev cX9_pass : ByteArray := prog_11_method_54_code
def yX9_pass : MethodName := ⟨RX9, "pass", "()I"⟩
abbrev cX9_laysAside : ByteArray := prog_11_method_55_code
def yX9_laysAside : MethodName := ⟨RX9, "laysAside", "()V"⟩
abbrev cX9_laysBack : ByteArray := prog_11_method_56_code
def yX9_laysBack : MethodName := ⟨RX9, "laysBack", "()V"⟩
abbrev cX9_canAll : ByteArray := prog_11_method_57_code
def yX9_canAll : MethodName := ⟨RX9, "canAll", "(II)Z"⟩
abbrev cX9_goesOn : ByteArray := prog_11_method_58_code
def yX9_goesOn : MethodName := ⟨RX9, "goesOn", "(II)I"⟩
abbrev cX9_isTired : ByteArray := prog_11_method_59_code
def yX9_isTired : MethodName := ⟨RX9, "isTired", "(III)Z"⟩
abbrev cX9_anyMay : ByteArray := prog_11_method_60_code
def yX9_anyMay : MethodName := ⟨RX9, "anyMay", "(I)Z"⟩
abbrev cX9_digit : ByteArray := prog_11_method_61_code
def yX9_digit : MethodName := ⟨RX9, "digit", "(III)I"⟩
abbrev cX9_housesWith : ByteArray := prog_11_method_62_code
def yX9_housesWith : MethodName := ⟨RX9, "housesWith", "(II)I"⟩
abbrev cX9_spread : ByteArray := prog_11_method_63_code
def yX9_spread : MethodName := ⟨RX9, "spread", "(II)I"⟩
abbrev cX9_keepAway : ByteArray := prog_11_method_64_code
def yX9_keepAway : MethodName := ⟨RX9, "keepAway", "(I)I"⟩
abbrev cX9_send : ByteArray := prog_11_method_65_code
def yX9_send : MethodName := ⟨RX9, "send", "(II)I"⟩
abbrev cX9_stranger : ByteArray := prog_11_method_66_code
def yX9_stranger : MethodName := ⟨RX9, "stranger", "(III)I"⟩
abbrev cX9_left : ByteArray := prog_11_method_67_code
def yX9_left : MethodName := ⟨RX9, "left", "()I"⟩
abbrev cX9_judge : ByteArray := prog_11_method_68_code
def yX9_judge : MethodName := ⟨RX9, "judge", "(I)I"⟩
abbrev cX9_drawn : ByteArray := prog_11_method_69_code
def yX9_drawn : MethodName := ⟨RX9, "drawn", "(II)I"⟩
abbrev cX9_image : ByteArray := prog_11_method_70_code
def yX9_image : MethodName := ⟨RX9, "image", "()I"⟩
abbrev cX9_back : ByteArray := prog_11_method_71_code
def yX9_back : MethodName := ⟨RX9, "back", "()I"⟩
abbrev cX9_count : ByteArray := prog_11_method_72_code
def yX9_count : MethodName := ⟨RX9, "count", "(I)I"⟩
abbrev cX9_isSheet : ByteArray := prog_11_method_73_code
def yX9_isSheet : MethodName := ⟨RX9, "isSheet", "(I)Z"⟩
abbrev cX9_sheet : ByteArray := prog_11_method_74_code
def yX9_sheet : MethodName := ⟨RX9, "sheet", "(III)I"⟩
abbrev cX9_cell : ByteArray := prog_11_method_75_code
def yX9_cell : MethodName := ⟨RX9, "cell", "(III)I"⟩
abbrev cX9_copy : ByteArray := prog_11_method_76_code
def yX9_copy : MethodName := ⟨RX9, "copy", "(IIIII)I"⟩
abbrev cX9_people : ByteArray := prog_11_method_77_code
def yX9_people : MethodName := ⟨RX9, "people", "(IIII)I"⟩
abbrev cX9_over : ByteArray := prog_11_method_78_code
def yX9_over : MethodName := ⟨RX9, "over", "(I)I"⟩
abbrev cX9_taken : ByteArray := prog_11_method_79_code
def yX9_taken : MethodName := ⟨RX9, "taken", "(II)I"⟩
def RJ11 : String := "java/lang/Character"
def TJ11 : u_T := fun k => match k with
  | _ => ("", "", "", false)
def tyJ11 : Nat → FieldType := fun k => match k with
  | _ => .int
abbrev wsJ110 : List Cond := u_ws RJ11 TJ11 0
theorem nmJ11 : ∀ a, a < 0 → ∀ b, b < 0 → a ≠ b → (TJ11 a).2.1 ≠ (TJ11 b).2.1 := by decide +kernel
theorem tyJ11_ok : ∀ k, k < 0 → parseFieldDescriptor (TJ11 k).2.2.1 = some (tyJ11 k) := by decide +kernel
abbrev cJ11_isValidCodePoint_9a6ad : ByteArray := prog_12_method_11_code
def yJ11_isValidCodePoint_9a6ad : MethodName := ⟨RJ11, "isValidCodePoint", "(I)Z"⟩
abbrev cJ11_highSurrogate_5068e : ByteArray := prog_12_method_28_code
def yJ11_highSurrogate_5068e : MethodName := ⟨RJ11, "highSurrogate", "(I)C"⟩
abbrev cJ11_lowSurrogate_5068e : ByteArray := prog_12_method_29_code
def yJ11_lowSurrogate_5068e : MethodName := ⟨RJ11, "lowSurrogate", "(I)C"⟩
def RJ6 : String := "java/lang/Integer"
def TJ6 : u_T := fun k => match k with
  | _ => ("", "", "", false)
def tyJ6 : Nat → FieldType := fun k => match k with
  | _ => .int
abbrev wsJ60 : List Cond := u_ws RJ6 TJ6 0
theorem nmJ6 : ∀ a, a < 0 → ∀ b, b < 0 → a ≠ b → (TJ6 a).2.1 ≠ (TJ6 b).2.1 := by decide +kernel
theorem tyJ6_ok : ∀ k, k < 0 → parseFieldDescriptor (TJ6 k).2.2.1 = some (tyJ6 k) := by decide +kernel
abbrev cJ6_bitCount_0f7a4 : ByteArray := prog_13_method_49_code
def yJ6_bitCount_0f7a4 : MethodName := ⟨RJ6, "bitCount", "(I)I"⟩
def RJ9 : String := "java/lang/Math"
def TJ9 : u_T := fun k => match k with
  | _ => ("", "", "", false)
def tyJ9 : Nat → FieldType := fun k => match k with
  | _ => .int
abbrev wsJ90 : List Cond := u_ws RJ9 TJ9 0
theorem nmJ9 : ∀ a, a < 0 → ∀ b, b < 0 → a ≠ b → (TJ9 a).2.1 ≠ (TJ9 b).2.1 := by decide +kernel
theorem tyJ9_ok : ∀ k, k < 0 → parseFieldDescriptor (TJ9 k).2.2.1 = some (tyJ9 k) := by decide +kernel
abbrev cJ9_max_7cf53 : ByteArray := prog_14_method_65_code
def yJ9_max_7cf53 : MethodName := ⟨RJ9, "max", "(II)I"⟩
abbrev cJ9_min_7cf53 : ByteArray := prog_14_method_69_code
def yJ9_min_7cf53 : MethodName := ⟨RJ9, "min", "(II)I"⟩
def RJ0 : String := "java/lang/String"
def TJ0 : u_T := fun k => match k with
  | _ => ("", "", "", false)
def tyJ0 : Nat → FieldType := fun k => match k with
  | _ => .int
abbrev wsJ00 : List Cond := u_ws RJ0 TJ0 0
theorem nmJ0 : ∀ a, a < 0 → ∀ b, b < 0 → a ≠ b → (TJ0 a).2.1 ≠ (TJ0 b).2.1 := by decide +kernel
theorem tyJ0_ok : ∀ k, k < 0 → parseFieldDescriptor (TJ0 k).2.2.1 = some (tyJ0 k) := by decide +kernel
abbrev cJ0_length_8abf5 : ByteArray := prog_15_method_54_code
def yJ0_length_8abf5 : MethodName := ⟨RJ0, "length", "()I"⟩
abbrev cJ0_charAt_5068e : ByteArray := prog_15_method_56_code
def yJ0_charAt_5068e : MethodName := ⟨RJ0, "charAt", "(I)C"⟩
abbrev cJ0_indexOf_0f7a4 : ByteArray := prog_15_method_79_code
def yJ0_indexOf_0f7a4 : MethodName := ⟨RJ0, "indexOf", "(I)I"⟩
abbrev cJ0_indexOf_7cf53 : ByteArray := prog_15_method_80_code
def yJ0_indexOf_7cf53 : MethodName := ⟨RJ0, "indexOf", "(II)I"⟩
abbrev cJ0_coder_7d493 : ByteArray := prog_15_method_152_code
def yJ0_coder_7d493 : MethodName := ⟨RJ0, "coder", "()B"⟩
abbrev cJ0_isLatin1_aae02 : ByteArray := prog_15_method_154_code
def yJ0_isLatin1_aae02 : MethodName := ⟨RJ0, "isLatin1", "()Z"⟩
abbrev cJ0_checkIndex_df160 : ByteArray := prog_15_method_155_code
def yJ0_checkIndex_df160 : MethodName := ⟨RJ0, "checkIndex", "(II)V"⟩
abbrev cJ0_checkBoundsBeginEnd_23922 : ByteArray := prog_15_method_158_code
def yJ0_checkBoundsBeginEnd_23922 : MethodName := ⟨RJ0, "checkBoundsBeginEnd", "(III)V"⟩
def RJ1 : String := "java/lang/StringLatin1"
def TJ1 : u_T := fun k => match k with
  | _ => ("", "", "", false)
def tyJ1 : Nat → FieldType := fun k => match k with
  | _ => .int
abbrev wsJ10 : List Cond := u_ws RJ1 TJ1 0
theorem nmJ1 : ∀ a, a < 0 → ∀ b, b < 0 → a ≠ b → (TJ1 a).2.1 ≠ (TJ1 b).2.1 := by decide +kernel
theorem tyJ1_ok : ∀ k, k < 0 → parseFieldDescriptor (TJ1 k).2.2.1 = some (tyJ1 k) := by decide +kernel
abbrev cJ1_charAt_3b067 : ByteArray := prog_16_method_2_code
def yJ1_charAt_3b067 : MethodName := ⟨RJ1, "charAt", "([BI)C"⟩
abbrev cJ1_canEncode_9a6ad : ByteArray := prog_16_method_4_code
def yJ1_canEncode_9a6ad : MethodName := ⟨RJ1, "canEncode", "(I)Z"⟩
abbrev cJ1_indexOf_4cfef : ByteArray := prog_16_method_22_code
def yJ1_indexOf_4cfef : MethodName := ⟨RJ1, "indexOf", "([BIII)I"⟩
abbrev cJ1_indexOfChar_4cfef : ByteArray := prog_16_method_23_code
def yJ1_indexOfChar_4cfef : MethodName := ⟨RJ1, "indexOfChar", "([BIII)I"⟩
def RJ2 : String := "java/lang/StringUTF16"
def TJ2 : u_T := fun k => match k with
  | _ => ("", "", "", false)
def tyJ2 : Nat → FieldType := fun k => match k with
  | _ => .int
abbrev wsJ20 : List Cond := u_ws RJ2 TJ2 0
theorem nmJ2 : ∀ a, a < 0 → ∀ b, b < 0 → a ≠ b → (TJ2 a).2.1 ≠ (TJ2 b).2.1 := by decide +kernel
theorem tyJ2_ok : ∀ k, k < 0 → parseFieldDescriptor (TJ2 k).2.2.1 = some (tyJ2 k) := by decide +kernel
abbrev cJ2_getChar_3b067 : ByteArray := prog_17_method_5_code
def yJ2_getChar_3b067 : MethodName := ⟨RJ2, "getChar", "([BI)C"⟩
abbrev cJ2_length_9d52b : ByteArray := prog_17_method_6_code
def yJ2_length_9d52b : MethodName := ⟨RJ2, "length", "([B)I"⟩
abbrev cJ2_indexOf_4cfef : ByteArray := prog_17_method_40_code
def yJ2_indexOf_4cfef : MethodName := ⟨RJ2, "indexOf", "([BIII)I"⟩
abbrev cJ2_indexOfChar_4cfef : ByteArray := prog_17_method_47_code
def yJ2_indexOfChar_4cfef : MethodName := ⟨RJ2, "indexOfChar", "([BIII)I"⟩
abbrev cJ2_indexOfCharUnsafe_4cfef : ByteArray := prog_17_method_48_code
def yJ2_indexOfCharUnsafe_4cfef : MethodName := ⟨RJ2, "indexOfCharUnsafe", "([BIII)I"⟩
abbrev cJ2_indexOfSupplementary_4cfef : ByteArray := prog_17_method_49_code
def yJ2_indexOfSupplementary_4cfef : MethodName := ⟨RJ2, "indexOfSupplementary", "([BIII)I"⟩
abbrev cJ2_charAt_3b067 : ByteArray := prog_17_method_83_code
def yJ2_charAt_3b067 : MethodName := ⟨RJ2, "charAt", "([BI)C"⟩
abbrev cJ2_checkIndex_2214a : ByteArray := prog_17_method_91_code
def yJ2_checkIndex_2214a : MethodName := ⟨RJ2, "checkIndex", "(I[B)V"⟩
abbrev cJ2_checkBoundsBeginEnd_d044e : ByteArray := prog_17_method_93_code
def yJ2_checkBoundsBeginEnd_d044e : MethodName := ⟨RJ2, "checkBoundsBeginEnd", "(II[B)V"⟩
def RJ10 : String := "java/lang/System"
def TJ10 : u_T := fun k => match k with
  | _ => ("", "", "", false)
def tyJ10 : Nat → FieldType := fun k => match k with
  | _ => .int
abbrev wsJ100 : List Cond := u_ws RJ10 TJ10 0
theorem nmJ10 : ∀ a, a < 0 → ∀ b, b < 0 → a ≠ b → (TJ10 a).2.1 ≠ (TJ10 b).2.1 := by decide +kernel
theorem tyJ10_ok : ∀ k, k < 0 → parseFieldDescriptor (TJ10 k).2.2.1 = some (tyJ10 k) := by decide +kernel
def RJ3 : String := "jdk/internal/util/Preconditions"
def TJ3 : u_T := fun k => match k with
  | _ => ("", "", "", false)
def tyJ3 : Nat → FieldType := fun k => match k with
  | _ => .int
abbrev wsJ30 : List Cond := u_ws RJ3 TJ3 0
theorem nmJ3 : ∀ a, a < 0 → ∀ b, b < 0 → a ≠ b → (TJ3 a).2.1 ≠ (TJ3 b).2.1 := by decide +kernel
theorem tyJ3_ok : ∀ k, k < 0 → parseFieldDescriptor (TJ3 k).2.2.1 = some (tyJ3 k) := by decide +kernel
abbrev cJ3_checkIndex_8e157 : ByteArray := prog_19_method_11_code
def yJ3_checkIndex_8e157 : MethodName := ⟨RJ3, "checkIndex", "(IILjava/util/function/BiFunction;)I"⟩
abbrev cJ3_checkFromToIndex_8c36e : ByteArray := prog_19_method_12_code
def yJ3_checkFromToIndex_8c36e : MethodName := ⟨RJ3, "checkFromToIndex", "(IIILjava/util/function/BiFunction;)I"⟩
def RL : String := "NotTwiceLaw"
abbrev cL_law : ByteArray := code
def yL_law : MethodName := ⟨RL, "law", "([I)Z"⟩
abbrev vwCl : List vw_C := [(RX0, TX0, 14), (RX1, TX1, 9), (RX2, TX2, 3), (RX3, TX3, 9), (RX4, TX4, 3), (RX5, TX5, 5), (RX7, TX7, 4), (RX8, TX8, 9), (RX9, TX9, 51)]
