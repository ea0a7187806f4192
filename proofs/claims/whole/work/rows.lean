section
-- ===== PART A: goes FIRST, ahead of the names: the tables' words, and 'selects' of the private methods out of them =====
/-- a private method of a class that the tables say can be made, by its rows of tables_1 -/
def lw_okq (q : MethodName × Nat) : Prop := (q.1.cls ≠ "java/lang/invoke/MethodHandle" ∧ q.1.cls ≠ "java/lang/invoke/VarHandle") ∧ Cond.instantiable q.1.cls q.2 ∈ tables_1 ∧ Cond.privateMethod q.1 ∈ tables_1 ∧ Cond.instanceMethod q.1 ∈ tables_1
theorem lw_p0 : lw_okq (⟨"NotTwice$Reader", "putFirstText", "()V"⟩, 9) := ⟨⟨by decide +kernel, by decide +kernel⟩, List.mem_of_getElem? (i := 81) (by decide +kernel), List.mem_of_getElem? (i := 116) (by decide +kernel), List.mem_of_getElem? (i := 117) (by decide +kernel)⟩
theorem lw_p1 : lw_okq (⟨"NotTwice$Reader", "put", "(I)I"⟩, 9) := ⟨⟨by decide +kernel, by decide +kernel⟩, List.mem_of_getElem? (i := 81) (by decide +kernel), List.mem_of_getElem? (i := 169) (by decide +kernel), List.mem_of_getElem? (i := 170) (by decide +kernel)⟩
theorem lw_p2 : lw_okq (⟨"NotTwice$Reader", "reads", "()Z"⟩, 9) := ⟨⟨by decide +kernel, by decide +kernel⟩, List.mem_of_getElem? (i := 81) (by decide +kernel), List.mem_of_getElem? (i := 173) (by decide +kernel), List.mem_of_getElem? (i := 174) (by decide +kernel)⟩
theorem lw_p3 : lw_okq (⟨"NotTwice$Reader", "step", "()V"⟩, 9) := ⟨⟨by decide +kernel, by decide +kernel⟩, List.mem_of_getElem? (i := 81) (by decide +kernel), List.mem_of_getElem? (i := 177) (by decide +kernel), List.mem_of_getElem? (i := 178) (by decide +kernel)⟩
theorem lw_p4 : lw_okq (⟨"NotTwice$Reader", "word", "()I"⟩, 9) := ⟨⟨by decide +kernel, by decide +kernel⟩, List.mem_of_getElem? (i := 81) (by decide +kernel), List.mem_of_getElem? (i := 184) (by decide +kernel), List.mem_of_getElem? (i := 185) (by decide +kernel)⟩
theorem lw_p5 : lw_okq (⟨"NotTwice$Reader", "numeral", "()I"⟩, 9) := ⟨⟨by decide +kernel, by decide +kernel⟩, List.mem_of_getElem? (i := 81) (by decide +kernel), List.mem_of_getElem? (i := 192) (by decide +kernel), List.mem_of_getElem? (i := 193) (by decide +kernel)⟩
theorem lw_p6 : lw_okq (⟨"NotTwice$Reader", "takes", "(I)Z"⟩, 9) := ⟨⟨by decide +kernel, by decide +kernel⟩, List.mem_of_getElem? (i := 81) (by decide +kernel), List.mem_of_getElem? (i := 256) (by decide +kernel), List.mem_of_getElem? (i := 257) (by decide +kernel)⟩
theorem lw_p7 : lw_okq (⟨"NotTwice$Reader", "readsLevel", "(I)Z"⟩, 9) := ⟨⟨by decide +kernel, by decide +kernel⟩, List.mem_of_getElem? (i := 81) (by decide +kernel), List.mem_of_getElem? (i := 260) (by decide +kernel), List.mem_of_getElem? (i := 261) (by decide +kernel)⟩
theorem lw_p8 : lw_okq (⟨"NotTwice$Reader", "readsOpened", "()Z"⟩, 9) := ⟨⟨by decide +kernel, by decide +kernel⟩, List.mem_of_getElem? (i := 81) (by decide +kernel), List.mem_of_getElem? (i := 264) (by decide +kernel), List.mem_of_getElem? (i := 265) (by decide +kernel)⟩
theorem lw_p9 : lw_okq (⟨"NotTwice$Reader", "write", "(I)V"⟩, 9) := ⟨⟨by decide +kernel, by decide +kernel⟩, List.mem_of_getElem? (i := 81) (by decide +kernel), List.mem_of_getElem? (i := 268) (by decide +kernel), List.mem_of_getElem? (i := 269) (by decide +kernel)⟩
theorem lw_p10 : lw_okq (⟨"NotTwice$Reader", "readsPlain", "()Z"⟩, 9) := ⟨⟨by decide +kernel, by decide +kernel⟩, List.mem_of_getElem? (i := 81) (by decide +kernel), List.mem_of_getElem? (i := 272) (by decide +kernel), List.mem_of_getElem? (i := 273) (by decide +kernel)⟩
theorem lw_p11 : lw_okq (⟨"NotTwice$Reader", "made", "()LNotTwice$Rule;"⟩, 9) := ⟨⟨by decide +kernel, by decide +kernel⟩, List.mem_of_getElem? (i := 81) (by decide +kernel), List.mem_of_getElem? (i := 279) (by decide +kernel), List.mem_of_getElem? (i := 280) (by decide +kernel)⟩
theorem lw_p12 : lw_okq (⟨"NotTwice$Texts", "add", "(LNotTwice$Rule;)I"⟩, 4) := ⟨⟨by decide +kernel, by decide +kernel⟩, List.mem_of_getElem? (i := 57) (by decide +kernel), List.mem_of_getElem? (i := 303) (by decide +kernel), List.mem_of_getElem? (i := 304) (by decide +kernel)⟩
theorem lw_p13 : lw_okq (⟨"NotTwice$Texts", "isFull", "()Z"⟩, 4) := ⟨⟨by decide +kernel, by decide +kernel⟩, List.mem_of_getElem? (i := 57) (by decide +kernel), List.mem_of_getElem? (i := 307) (by decide +kernel), List.mem_of_getElem? (i := 308) (by decide +kernel)⟩
theorem lw_p14 : lw_okq (⟨"NotTwice$Reader", "empty", "()V"⟩, 9) := ⟨⟨by decide +kernel, by decide +kernel⟩, List.mem_of_getElem? (i := 81) (by decide +kernel), List.mem_of_getElem? (i := 311) (by decide +kernel), List.mem_of_getElem? (i := 312) (by decide +kernel)⟩
theorem lw_p15 : lw_okq (⟨"NotTwice$Shelf", "add", "(III)I"⟩, 5) := ⟨⟨by decide +kernel, by decide +kernel⟩, List.mem_of_getElem? (i := 27) (by decide +kernel), List.mem_of_getElem? (i := 463) (by decide +kernel), List.mem_of_getElem? (i := 464) (by decide +kernel)⟩
def lw_privs_1 : List (MethodName × Nat) := [(⟨"NotTwice$Reader", "putFirstText", "()V"⟩, 9), (⟨"NotTwice$Reader", "put", "(I)I"⟩, 9), (⟨"NotTwice$Reader", "reads", "()Z"⟩, 9), (⟨"NotTwice$Reader", "step", "()V"⟩, 9), (⟨"NotTwice$Reader", "word", "()I"⟩, 9), (⟨"NotTwice$Reader", "numeral", "()I"⟩, 9), (⟨"NotTwice$Reader", "takes", "(I)Z"⟩, 9), (⟨"NotTwice$Reader", "readsLevel", "(I)Z"⟩, 9), (⟨"NotTwice$Reader", "readsOpened", "()Z"⟩, 9), (⟨"NotTwice$Reader", "write", "(I)V"⟩, 9), (⟨"NotTwice$Reader", "readsPlain", "()Z"⟩, 9), (⟨"NotTwice$Reader", "made", "()LNotTwice$Rule;"⟩, 9), (⟨"NotTwice$Texts", "add", "(LNotTwice$Rule;)I"⟩, 4), (⟨"NotTwice$Texts", "isFull", "()Z"⟩, 4), (⟨"NotTwice$Reader", "empty", "()V"⟩, 9), (⟨"NotTwice$Shelf", "add", "(III)I"⟩, 5)]
theorem lw_r1 : ∀ q ∈ lw_privs_1, lw_okq q := List.forall_mem_cons.mpr ⟨lw_p0, List.forall_mem_cons.mpr ⟨lw_p1, List.forall_mem_cons.mpr ⟨lw_p2, List.forall_mem_cons.mpr ⟨lw_p3, List.forall_mem_cons.mpr ⟨lw_p4, List.forall_mem_cons.mpr ⟨lw_p5, List.forall_mem_cons.mpr ⟨lw_p6, List.forall_mem_cons.mpr ⟨lw_p7, List.forall_mem_cons.mpr ⟨lw_p8, List.forall_mem_cons.mpr ⟨lw_p9, List.forall_mem_cons.mpr ⟨lw_p10, List.forall_mem_cons.mpr ⟨lw_p11, List.forall_mem_cons.mpr ⟨lw_p12, List.forall_mem_cons.mpr ⟨lw_p13, List.forall_mem_cons.mpr ⟨lw_p14, List.forall_mem_cons.mpr ⟨lw_p15, fun _ h => absurd h List.not_mem_nil⟩⟩⟩⟩⟩⟩⟩⟩⟩⟩⟩⟩⟩⟩⟩⟩
theorem lw_p16 : lw_okq (⟨"NotTwice$Shelf", "has", "(I)Z"⟩, 5) := ⟨⟨by decide +kernel, by decide +kernel⟩, List.mem_of_getElem? (i := 27) (by decide +kernel), List.mem_of_getElem? (i := 471) (by decide +kernel), List.mem_of_getElem? (i := 472) (by decide +kernel)⟩
theorem lw_p17 : lw_okq (⟨"NotTwice$Shelf", "join", "(II)V"⟩, 5) := ⟨⟨by decide +kernel, by decide +kernel⟩, List.mem_of_getElem? (i := 27) (by decide +kernel), List.mem_of_getElem? (i := 476) (by decide +kernel), List.mem_of_getElem? (i := 477) (by decide +kernel)⟩
theorem lw_p18 : lw_okq (⟨"NotTwice$Shelf", "part", "(I)V"⟩, 5) := ⟨⟨by decide +kernel, by decide +kernel⟩, List.mem_of_getElem? (i := 27) (by decide +kernel), List.mem_of_getElem? (i := 480) (by decide +kernel), List.mem_of_getElem? (i := 481) (by decide +kernel)⟩
theorem lw_p19 : lw_okq (⟨"NotTwice$People", "come", "(II)I"⟩, 14) := ⟨⟨by decide +kernel, by decide +kernel⟩, List.mem_of_getElem? (i := 315) (by decide +kernel), List.mem_of_getElem? (i := 489) (by decide +kernel), List.mem_of_getElem? (i := 490) (by decide +kernel)⟩
theorem lw_p20 : lw_okq (⟨"NotTwice$People", "sit", "(III)V"⟩, 14) := ⟨⟨by decide +kernel, by decide +kernel⟩, List.mem_of_getElem? (i := 315) (by decide +kernel), List.mem_of_getElem? (i := 494) (by decide +kernel), List.mem_of_getElem? (i := 495) (by decide +kernel)⟩
theorem lw_p21 : lw_okq (⟨"NotTwice$People", "has", "(I)Z"⟩, 14) := ⟨⟨by decide +kernel, by decide +kernel⟩, List.mem_of_getElem? (i := 315) (by decide +kernel), List.mem_of_getElem? (i := 502) (by decide +kernel), List.mem_of_getElem? (i := 503) (by decide +kernel)⟩
theorem lw_p22 : lw_okq (⟨"NotTwice$People", "hear", "(II)V"⟩, 14) := ⟨⟨by decide +kernel, by decide +kernel⟩, List.mem_of_getElem? (i := 315) (by decide +kernel), List.mem_of_getElem? (i := 516) (by decide +kernel), List.mem_of_getElem? (i := 517) (by decide +kernel)⟩
theorem lw_p23 : lw_okq (⟨"NotTwice$People", "forget", "(II)V"⟩, 14) := ⟨⟨by decide +kernel, by decide +kernel⟩, List.mem_of_getElem? (i := 315) (by decide +kernel), List.mem_of_getElem? (i := 520) (by decide +kernel), List.mem_of_getElem? (i := 521) (by decide +kernel)⟩
theorem lw_p24 : lw_okq (⟨"NotTwice$Shelf", "stays", "(I)I"⟩, 5) := ⟨⟨by decide +kernel, by decide +kernel⟩, List.mem_of_getElem? (i := 27) (by decide +kernel), List.mem_of_getElem? (i := 528) (by decide +kernel), List.mem_of_getElem? (i := 529) (by decide +kernel)⟩
theorem lw_p25 : lw_okq (⟨"NotTwice$Shelf", "counts", "(II)I"⟩, 5) := ⟨⟨by decide +kernel, by decide +kernel⟩, List.mem_of_getElem? (i := 27) (by decide +kernel), List.mem_of_getElem? (i := 533) (by decide +kernel), List.mem_of_getElem? (i := 534) (by decide +kernel)⟩
theorem lw_p26 : lw_okq (⟨"NotTwice$People", "knows", "(I)I"⟩, 14) := ⟨⟨by decide +kernel, by decide +kernel⟩, List.mem_of_getElem? (i := 315) (by decide +kernel), List.mem_of_getElem? (i := 541) (by decide +kernel), List.mem_of_getElem? (i := 542) (by decide +kernel)⟩
theorem lw_p27 : lw_okq (⟨"NotTwice$Shelf", "withTwins", "(I)I"⟩, 5) := ⟨⟨by decide +kernel, by decide +kernel⟩, List.mem_of_getElem? (i := 27) (by decide +kernel), List.mem_of_getElem? (i := 545) (by decide +kernel), List.mem_of_getElem? (i := 546) (by decide +kernel)⟩
theorem lw_p28 : lw_okq (⟨"NotTwice$Reader", "place", "()I"⟩, 9) := ⟨⟨by decide +kernel, by decide +kernel⟩, List.mem_of_getElem? (i := 81) (by decide +kernel), List.mem_of_getElem? (i := 559) (by decide +kernel), List.mem_of_getElem? (i := 560) (by decide +kernel)⟩
theorem lw_p29 : lw_okq (⟨"NotTwice$Texts", "has", "(I)Z"⟩, 4) := ⟨⟨by decide +kernel, by decide +kernel⟩, List.mem_of_getElem? (i := 57) (by decide +kernel), List.mem_of_getElem? (i := 567) (by decide +kernel), List.mem_of_getElem? (i := 568) (by decide +kernel)⟩
theorem lw_p30 : lw_okq (⟨"NotTwice$People", "tellableIn", "(I)I"⟩, 14) := ⟨⟨by decide +kernel, by decide +kernel⟩, List.mem_of_getElem? (i := 315) (by decide +kernel), List.mem_of_getElem? (i := 576) (by decide +kernel), List.mem_of_getElem? (i := 577) (by decide +kernel)⟩
theorem lw_p31 : lw_okq (⟨"NotTwice$People", "lookInto", "(I)V"⟩, 14) := ⟨⟨by decide +kernel, by decide +kernel⟩, List.mem_of_getElem? (i := 315) (by decide +kernel), List.mem_of_getElem? (i := 580) (by decide +kernel), List.mem_of_getElem? (i := 581) (by decide +kernel)⟩
def lw_privs_2 : List (MethodName × Nat) := [(⟨"NotTwice$Shelf", "has", "(I)Z"⟩, 5), (⟨"NotTwice$Shelf", "join", "(II)V"⟩, 5), (⟨"NotTwice$Shelf", "part", "(I)V"⟩, 5), (⟨"NotTwice$People", "come", "(II)I"⟩, 14), (⟨"NotTwice$People", "sit", "(III)V"⟩, 14), (⟨"NotTwice$People", "has", "(I)Z"⟩, 14), (⟨"NotTwice$People", "hear", "(II)V"⟩, 14), (⟨"NotTwice$People", "forget", "(II)V"⟩, 14), (⟨"NotTwice$Shelf", "stays", "(I)I"⟩, 5), (⟨"NotTwice$Shelf", "counts", "(II)I"⟩, 5), (⟨"NotTwice$People", "knows", "(I)I"⟩, 14), (⟨"NotTwice$Shelf", "withTwins", "(I)I"⟩, 5), (⟨"NotTwice$Reader", "place", "()I"⟩, 9), (⟨"NotTwice$Texts", "has", "(I)Z"⟩, 4), (⟨"NotTwice$People", "tellableIn", "(I)I"⟩, 14), (⟨"NotTwice$People", "lookInto", "(I)V"⟩, 14)]
theorem lw_r2 : ∀ q ∈ lw_privs_2, lw_okq q := List.forall_mem_cons.mpr ⟨lw_p16, List.forall_mem_cons.mpr ⟨lw_p17, List.forall_mem_cons.mpr ⟨lw_p18, List.forall_mem_cons.mpr ⟨lw_p19, List.forall_mem_cons.mpr ⟨lw_p20, List.forall_mem_cons.mpr ⟨lw_p21, List.forall_mem_cons.mpr ⟨lw_p22, List.forall_mem_cons.mpr ⟨lw_p23, List.forall_mem_cons.mpr ⟨lw_p24, List.forall_mem_cons.mpr ⟨lw_p25, List.forall_mem_cons.mpr ⟨lw_p26, List.forall_mem_cons.mpr ⟨lw_p27, List.forall_mem_cons.mpr ⟨lw_p28, List.forall_mem_cons.mpr ⟨lw_p29, List.forall_mem_cons.mpr ⟨lw_p30, List.forall_mem_cons.mpr ⟨lw_p31, fun _ h => absurd h List.not_mem_nil⟩⟩⟩⟩⟩⟩⟩⟩⟩⟩⟩⟩⟩⟩⟩⟩
theorem lw_p32 : lw_okq (⟨"NotTwice$People", "tellableOf", "(II)I"⟩, 14) := ⟨⟨by decide +kernel, by decide +kernel⟩, List.mem_of_getElem? (i := 315) (by decide +kernel), List.mem_of_getElem? (i := 585) (by decide +kernel), List.mem_of_getElem? (i := 586) (by decide +kernel)⟩
theorem lw_p33 : lw_okq (⟨"NotTwice$People", "newToOthers", "(I)I"⟩, 14) := ⟨⟨by decide +kernel, by decide +kernel⟩, List.mem_of_getElem? (i := 315) (by decide +kernel), List.mem_of_getElem? (i := 589) (by decide +kernel), List.mem_of_getElem? (i := 590) (by decide +kernel)⟩
theorem lw_p34 : lw_okq (⟨"NotTwice$Shelf", "all", "()I"⟩, 5) := ⟨⟨by decide +kernel, by decide +kernel⟩, List.mem_of_getElem? (i := 27) (by decide +kernel), List.mem_of_getElem? (i := 593) (by decide +kernel), List.mem_of_getElem? (i := 594) (by decide +kernel)⟩
theorem lw_p35 : lw_okq (⟨"NotTwice$People", "value", "(IIII)I"⟩, 14) := ⟨⟨by decide +kernel, by decide +kernel⟩, List.mem_of_getElem? (i := 315) (by decide +kernel), List.mem_of_getElem? (i := 597) (by decide +kernel), List.mem_of_getElem? (i := 598) (by decide +kernel)⟩
theorem lw_p36 : lw_okq (⟨"NotTwice$Texts", "at", "(I)LNotTwice$Rule;"⟩, 4) := ⟨⟨by decide +kernel, by decide +kernel⟩, List.mem_of_getElem? (i := 57) (by decide +kernel), List.mem_of_getElem? (i := 601) (by decide +kernel), List.mem_of_getElem? (i := 602) (by decide +kernel)⟩
theorem lw_p37 : lw_okq (⟨"NotTwice$Rule", "value", "(I[I[I)I"⟩, 3) := ⟨⟨by decide +kernel, by decide +kernel⟩, List.mem_of_getElem? (i := 283) (by decide +kernel), List.mem_of_getElem? (i := 612) (by decide +kernel), List.mem_of_getElem? (i := 613) (by decide +kernel)⟩
theorem lw_p38 : lw_okq (⟨"NotTwice$People", "byWhom", "(II)I"⟩, 14) := ⟨⟨by decide +kernel, by decide +kernel⟩, List.mem_of_getElem? (i := 315) (by decide +kernel), List.mem_of_getElem? (i := 623) (by decide +kernel), List.mem_of_getElem? (i := 624) (by decide +kernel)⟩
theorem lw_p39 : lw_okq (⟨"NotTwice$People", "firstTeller", "(II)I"⟩, 14) := ⟨⟨by decide +kernel, by decide +kernel⟩, List.mem_of_getElem? (i := 315) (by decide +kernel), List.mem_of_getElem? (i := 627) (by decide +kernel), List.mem_of_getElem? (i := 628) (by decide +kernel)⟩
theorem lw_p40 : lw_okq (⟨"NotTwice$People", "worthOf", "(II)J"⟩, 14) := ⟨⟨by decide +kernel, by decide +kernel⟩, List.mem_of_getElem? (i := 315) (by decide +kernel), List.mem_of_getElem? (i := 635) (by decide +kernel), List.mem_of_getElem? (i := 636) (by decide +kernel)⟩
theorem lw_p41 : lw_okq (⟨"NotTwice$People", "worthBy", "(II)J"⟩, 14) := ⟨⟨by decide +kernel, by decide +kernel⟩, List.mem_of_getElem? (i := 315) (by decide +kernel), List.mem_of_getElem? (i := 640) (by decide +kernel), List.mem_of_getElem? (i := 641) (by decide +kernel)⟩
theorem lw_p42 : lw_okq (⟨"NotTwice$People", "bestOf", "(I)I"⟩, 14) := ⟨⟨by decide +kernel, by decide +kernel⟩, List.mem_of_getElem? (i := 315) (by decide +kernel), List.mem_of_getElem? (i := 654) (by decide +kernel), List.mem_of_getElem? (i := 655) (by decide +kernel)⟩
theorem lw_p43 : lw_okq (⟨"NotTwice$People", "spend", "(II)I"⟩, 14) := ⟨⟨by decide +kernel, by decide +kernel⟩, List.mem_of_getElem? (i := 315) (by decide +kernel), List.mem_of_getElem? (i := 662) (by decide +kernel), List.mem_of_getElem? (i := 663) (by decide +kernel)⟩
theorem lw_p44 : lw_okq (⟨"NotTwice$People", "sleep", "()V"⟩, 14) := ⟨⟨by decide +kernel, by decide +kernel⟩, List.mem_of_getElem? (i := 315) (by decide +kernel), List.mem_of_getElem? (i := 671) (by decide +kernel), List.mem_of_getElem? (i := 672) (by decide +kernel)⟩
theorem lw_p45 : lw_okq (⟨"NotTwice$People", "unheardIn", "(I)I"⟩, 14) := ⟨⟨by decide +kernel, by decide +kernel⟩, List.mem_of_getElem? (i := 315) (by decide +kernel), List.mem_of_getElem? (i := 681) (by decide +kernel), List.mem_of_getElem? (i := 682) (by decide +kernel)⟩
theorem lw_p46 : lw_okq (⟨"NotTwice", "canTellAll", "(II)Z"⟩, 9) := ⟨⟨by decide +kernel, by decide +kernel⟩, List.mem_of_getElem? (i := 19) (by decide +kernel), List.mem_of_getElem? (i := 686) (by decide +kernel), List.mem_of_getElem? (i := 687) (by decide +kernel)⟩
theorem lw_p47 : lw_okq (⟨"NotTwice$People", "takeAll", "(LNotTwice$People;)V"⟩, 14) := ⟨⟨by decide +kernel, by decide +kernel⟩, List.mem_of_getElem? (i := 315) (by decide +kernel), List.mem_of_getElem? (i := 690) (by decide +kernel), List.mem_of_getElem? (i := 691) (by decide +kernel)⟩
def lw_privs_3 : List (MethodName × Nat) := [(⟨"NotTwice$People", "tellableOf", "(II)I"⟩, 14), (⟨"NotTwice$People", "newToOthers", "(I)I"⟩, 14), (⟨"NotTwice$Shelf", "all", "()I"⟩, 5), (⟨"NotTwice$People", "value", "(IIII)I"⟩, 14), (⟨"NotTwice$Texts", "at", "(I)LNotTwice$Rule;"⟩, 4), (⟨"NotTwice$Rule", "value", "(I[I[I)I"⟩, 3), (⟨"NotTwice$People", "byWhom", "(II)I"⟩, 14), (⟨"NotTwice$People", "firstTeller", "(II)I"⟩, 14), (⟨"NotTwice$People", "worthOf", "(II)J"⟩, 14), (⟨"NotTwice$People", "worthBy", "(II)J"⟩, 14), (⟨"NotTwice$People", "bestOf", "(I)I"⟩, 14), (⟨"NotTwice$People", "spend", "(II)I"⟩, 14), (⟨"NotTwice$People", "sleep", "()V"⟩, 14), (⟨"NotTwice$People", "unheardIn", "(I)I"⟩, 14), (⟨"NotTwice", "canTellAll", "(II)Z"⟩, 9), (⟨"NotTwice$People", "takeAll", "(LNotTwice$People;)V"⟩, 14)]
theorem lw_r3 : ∀ q ∈ lw_privs_3, lw_okq q := List.forall_mem_cons.mpr ⟨lw_p32, List.forall_mem_cons.mpr ⟨lw_p33, List.forall_mem_cons.mpr ⟨lw_p34, List.forall_mem_cons.mpr ⟨lw_p35, List.forall_mem_cons.mpr ⟨lw_p36, List.forall_mem_cons.mpr ⟨lw_p37, List.forall_mem_cons.mpr ⟨lw_p38, List.forall_mem_cons.mpr ⟨lw_p39, List.forall_mem_cons.mpr ⟨lw_p40, List.forall_mem_cons.mpr ⟨lw_p41, List.forall_mem_cons.mpr ⟨lw_p42, List.forall_mem_cons.mpr ⟨lw_p43, List.forall_mem_cons.mpr ⟨lw_p44, List.forall_mem_cons.mpr ⟨lw_p45, List.forall_mem_cons.mpr ⟨lw_p46, List.forall_mem_cons.mpr ⟨lw_p47, fun _ h => absurd h List.not_mem_nil⟩⟩⟩⟩⟩⟩⟩⟩⟩⟩⟩⟩⟩⟩⟩⟩
theorem lw_p48 : lw_okq (⟨"NotTwice$People", "goBackTo", "(LNotTwice$People;)V"⟩, 14) := ⟨⟨by decide +kernel, by decide +kernel⟩, List.mem_of_getElem? (i := 315) (by decide +kernel), List.mem_of_getElem? (i := 695) (by decide +kernel), List.mem_of_getElem? (i := 696) (by decide +kernel)⟩
theorem lw_p49 : lw_okq (⟨"NotTwice$Seating", "waysOver", "(I)I"⟩, 9) := ⟨⟨by decide +kernel, by decide +kernel⟩, List.mem_of_getElem? (i := 374) (by decide +kernel), List.mem_of_getElem? (i := 703) (by decide +kernel), List.mem_of_getElem? (i := 704) (by decide +kernel)⟩
theorem lw_p50 : lw_okq (⟨"NotTwice$Seating", "search", "(I)V"⟩, 9) := ⟨⟨by decide +kernel, by decide +kernel⟩, List.mem_of_getElem? (i := 374) (by decide +kernel), List.mem_of_getElem? (i := 707) (by decide +kernel), List.mem_of_getElem? (i := 708) (by decide +kernel)⟩
theorem lw_p51 : lw_okq (⟨"NotTwice$Seating", "prepare", "()V"⟩, 9) := ⟨⟨by decide +kernel, by decide +kernel⟩, List.mem_of_getElem? (i := 374) (by decide +kernel), List.mem_of_getElem? (i := 711) (by decide +kernel), List.mem_of_getElem? (i := 712) (by decide +kernel)⟩
theorem lw_p52 : lw_okq (⟨"NotTwice$Seating", "awakeOf", "(II)I"⟩, 9) := ⟨⟨by decide +kernel, by decide +kernel⟩, List.mem_of_getElem? (i := 374) (by decide +kernel), List.mem_of_getElem? (i := 716) (by decide +kernel), List.mem_of_getElem? (i := 717) (by decide +kernel)⟩
theorem lw_p53 : lw_okq (⟨"NotTwice$Seating", "housesWithStory", "(I)I"⟩, 9) := ⟨⟨by decide +kernel, by decide +kernel⟩, List.mem_of_getElem? (i := 374) (by decide +kernel), List.mem_of_getElem? (i := 724) (by decide +kernel), List.mem_of_getElem? (i := 725) (by decide +kernel)⟩
theorem lw_p54 : lw_okq (⟨"NotTwice$Seating", "fillHouses", "(I)V"⟩, 9) := ⟨⟨by decide +kernel, by decide +kernel⟩, List.mem_of_getElem? (i := 374) (by decide +kernel), List.mem_of_getElem? (i := 728) (by decide +kernel), List.mem_of_getElem? (i := 729) (by decide +kernel)⟩
theorem lw_p55 : lw_okq (⟨"NotTwice$Seating", "nextWay", "(I)V"⟩, 9) := ⟨⟨by decide +kernel, by decide +kernel⟩, List.mem_of_getElem? (i := 374) (by decide +kernel), List.mem_of_getElem? (i := 734) (by decide +kernel), List.mem_of_getElem? (i := 735) (by decide +kernel)⟩
theorem lw_p56 : lw_okq (⟨"NotTwice$People", "tellableBy", "(I)I"⟩, 14) := ⟨⟨by decide +kernel, by decide +kernel⟩, List.mem_of_getElem? (i := 315) (by decide +kernel), List.mem_of_getElem? (i := 746) (by decide +kernel), List.mem_of_getElem? (i := 747) (by decide +kernel)⟩
theorem lw_p57 : lw_okq (⟨"NotTwice$Sheets", "has", "(I)Z"⟩, 3) := ⟨⟨by decide +kernel, by decide +kernel⟩, List.mem_of_getElem? (i := 410) (by decide +kernel), List.mem_of_getElem? (i := 764) (by decide +kernel), List.mem_of_getElem? (i := 765) (by decide +kernel)⟩
theorem lw_p58 : lw_okq (⟨"NotTwice$Sheets", "isMissing", "(I)Z"⟩, 3) := ⟨⟨by decide +kernel, by decide +kernel⟩, List.mem_of_getElem? (i := 410) (by decide +kernel), List.mem_of_getElem? (i := 769) (by decide +kernel), List.mem_of_getElem? (i := 770) (by decide +kernel)⟩
theorem lw_p59 : lw_okq (⟨"NotTwice$Sheets", "at", "(II)I"⟩, 3) := ⟨⟨by decide +kernel, by decide +kernel⟩, List.mem_of_getElem? (i := 410) (by decide +kernel), List.mem_of_getElem? (i := 773) (by decide +kernel), List.mem_of_getElem? (i := 774) (by decide +kernel)⟩
theorem lw_p60 : lw_okq (⟨"NotTwice$Sheets", "lay", "(III)V"⟩, 3) := ⟨⟨by decide +kernel, by decide +kernel⟩, List.mem_of_getElem? (i := 410) (by decide +kernel), List.mem_of_getElem? (i := 799) (by decide +kernel), List.mem_of_getElem? (i := 800) (by decide +kernel)⟩
theorem lw_p61 : lw_okq (⟨"NotTwice$Sheets", "reaches", "(II)Z"⟩, 3) := ⟨⟨by decide +kernel, by decide +kernel⟩, List.mem_of_getElem? (i := 410) (by decide +kernel), List.mem_of_getElem? (i := 807) (by decide +kernel), List.mem_of_getElem? (i := 808) (by decide +kernel)⟩
theorem lw_p62 : lw_okq (⟨"NotTwice$Sheets", "write", "(III)V"⟩, 3) := ⟨⟨by decide +kernel, by decide +kernel⟩, List.mem_of_getElem? (i := 410) (by decide +kernel), List.mem_of_getElem? (i := 811) (by decide +kernel), List.mem_of_getElem? (i := 812) (by decide +kernel)⟩
theorem lw_p63 : lw_okq (⟨"NotTwice$Sheets", "hasRun", "(III)Z"⟩, 3) := ⟨⟨by decide +kernel, by decide +kernel⟩, List.mem_of_getElem? (i := 410) (by decide +kernel), List.mem_of_getElem? (i := 819) (by decide +kernel), List.mem_of_getElem? (i := 820) (by decide +kernel)⟩
def lw_privs_4 : List (MethodName × Nat) := [(⟨"NotTwice$People", "goBackTo", "(LNotTwice$People;)V"⟩, 14), (⟨"NotTwice$Seating", "waysOver", "(I)I"⟩, 9), (⟨"NotTwice$Seating", "search", "(I)V"⟩, 9), (⟨"NotTwice$Seating", "prepare", "()V"⟩, 9), (⟨"NotTwice$Seating", "awakeOf", "(II)I"⟩, 9), (⟨"NotTwice$Seating", "housesWithStory", "(I)I"⟩, 9), (⟨"NotTwice$Seating", "fillHouses", "(I)V"⟩, 9), (⟨"NotTwice$Seating", "nextWay", "(I)V"⟩, 9), (⟨"NotTwice$People", "tellableBy", "(I)I"⟩, 14), (⟨"NotTwice$Sheets", "has", "(I)Z"⟩, 3), (⟨"NotTwice$Sheets", "isMissing", "(I)Z"⟩, 3), (⟨"NotTwice$Sheets", "at", "(II)I"⟩, 3), (⟨"NotTwice$Sheets", "lay", "(III)V"⟩, 3), (⟨"NotTwice$Sheets", "reaches", "(II)Z"⟩, 3), (⟨"NotTwice$Sheets", "write", "(III)V"⟩, 3), (⟨"NotTwice$Sheets", "hasRun", "(III)Z"⟩, 3)]
theorem lw_r4 : ∀ q ∈ lw_privs_4, lw_okq q := List.forall_mem_cons.mpr ⟨lw_p48, List.forall_mem_cons.mpr ⟨lw_p49, List.forall_mem_cons.mpr ⟨lw_p50, List.forall_mem_cons.mpr ⟨lw_p51, List.forall_mem_cons.mpr ⟨lw_p52, List.forall_mem_cons.mpr ⟨lw_p53, List.forall_mem_cons.mpr ⟨lw_p54, List.forall_mem_cons.mpr ⟨lw_p55, List.forall_mem_cons.mpr ⟨lw_p56, List.forall_mem_cons.mpr ⟨lw_p57, List.forall_mem_cons.mpr ⟨lw_p58, List.forall_mem_cons.mpr ⟨lw_p59, List.forall_mem_cons.mpr ⟨lw_p60, List.forall_mem_cons.mpr ⟨lw_p61, List.forall_mem_cons.mpr ⟨lw_p62, List.forall_mem_cons.mpr ⟨lw_p63, fun _ h => absurd h List.not_mem_nil⟩⟩⟩⟩⟩⟩⟩⟩⟩⟩⟩⟩⟩⟩⟩⟩
theorem lw_p64 : lw_okq (⟨"NotTwice$Sheets", "carry", "(IIIII)V"⟩, 3) := ⟨⟨by decide +kernel, by decide +kernel⟩, List.mem_of_getElem? (i := 410) (by decide +kernel), List.mem_of_getElem? (i := 823) (by decide +kernel), List.mem_of_getElem? (i := 824) (by decide +kernel)⟩
theorem lw_p65 : lw_okq (⟨"NotTwice$Shelf", "isUnder", "(II)Z"⟩, 5) := ⟨⟨by decide +kernel, by decide +kernel⟩, List.mem_of_getElem? (i := 27) (by decide +kernel), List.mem_of_getElem? (i := 836) (by decide +kernel), List.mem_of_getElem? (i := 837) (by decide +kernel)⟩
theorem lw_p66 : lw_okq (⟨"NotTwiceModel", "spell", "(IIIIIIIII)V"⟩, 51) := ⟨⟨by decide +kernel, by decide +kernel⟩, List.mem_of_getElem? (i := 842) (by decide +kernel), List.mem_of_getElem? (i := 848) (by decide +kernel), List.mem_of_getElem? (i := 849) (by decide +kernel)⟩
theorem lw_p67 : lw_okq (⟨"NotTwiceModel", "isStory", "(I)Z"⟩, 51) := ⟨⟨by decide +kernel, by decide +kernel⟩, List.mem_of_getElem? (i := 842) (by decide +kernel), List.mem_of_getElem? (i := 1019) (by decide +kernel), List.mem_of_getElem? (i := 1020) (by decide +kernel)⟩
theorem lw_p68 : lw_okq (⟨"NotTwiceModel", "parts", "(I)V"⟩, 51) := ⟨⟨by decide +kernel, by decide +kernel⟩, List.mem_of_getElem? (i := 842) (by decide +kernel), List.mem_of_getElem? (i := 1023) (by decide +kernel), List.mem_of_getElem? (i := 1024) (by decide +kernel)⟩
theorem lw_p69 : lw_okq (⟨"NotTwiceModel", "isPerson", "(I)Z"⟩, 51) := ⟨⟨by decide +kernel, by decide +kernel⟩, List.mem_of_getElem? (i := 842) (by decide +kernel), List.mem_of_getElem? (i := 1038) (by decide +kernel), List.mem_of_getElem? (i := 1039) (by decide +kernel)⟩
theorem lw_p70 : lw_okq (⟨"NotTwiceModel", "stays", "(I)I"⟩, 51) := ⟨⟨by decide +kernel, by decide +kernel⟩, List.mem_of_getElem? (i := 842) (by decide +kernel), List.mem_of_getElem? (i := 1052) (by decide +kernel), List.mem_of_getElem? (i := 1053) (by decide +kernel)⟩
theorem lw_p71 : lw_okq (⟨"NotTwiceModel", "counts", "(II)I"⟩, 51) := ⟨⟨by decide +kernel, by decide +kernel⟩, List.mem_of_getElem? (i := 842) (by decide +kernel), List.mem_of_getElem? (i := 1056) (by decide +kernel), List.mem_of_getElem? (i := 1057) (by decide +kernel)⟩
theorem lw_p72 : lw_okq (⟨"NotTwiceModel", "known", "(I)I"⟩, 51) := ⟨⟨by decide +kernel, by decide +kernel⟩, List.mem_of_getElem? (i := 842) (by decide +kernel), List.mem_of_getElem? (i := 1065) (by decide +kernel), List.mem_of_getElem? (i := 1066) (by decide +kernel)⟩
theorem lw_p73 : lw_okq (⟨"NotTwiceModel", "read", "(II)I"⟩, 51) := ⟨⟨by decide +kernel, by decide +kernel⟩, List.mem_of_getElem? (i := 842) (by decide +kernel), List.mem_of_getElem? (i := 1077) (by decide +kernel), List.mem_of_getElem? (i := 1078) (by decide +kernel)⟩
theorem lw_p74 : lw_okq (⟨"NotTwiceModel", "next", "()V"⟩, 51) := ⟨⟨by decide +kernel, by decide +kernel⟩, List.mem_of_getElem? (i := 842) (by decide +kernel), List.mem_of_getElem? (i := 1081) (by decide +kernel), List.mem_of_getElem? (i := 1082) (by decide +kernel)⟩
theorem lw_p75 : lw_okq (⟨"NotTwiceModel", "byteAt", "(I)I"⟩, 51) := ⟨⟨by decide +kernel, by decide +kernel⟩, List.mem_of_getElem? (i := 842) (by decide +kernel), List.mem_of_getElem? (i := 1085) (by decide +kernel), List.mem_of_getElem? (i := 1086) (by decide +kernel)⟩
theorem lw_p76 : lw_okq (⟨"NotTwiceModel", "isWord", "(IIIIIIII)Z"⟩, 51) := ⟨⟨by decide +kernel, by decide +kernel⟩, List.mem_of_getElem? (i := 842) (by decide +kernel), List.mem_of_getElem? (i := 1094) (by decide +kernel), List.mem_of_getElem? (i := 1095) (by decide +kernel)⟩
theorem lw_p77 : lw_okq (⟨"NotTwiceModel", "isLetter", "(II)Z"⟩, 51) := ⟨⟨by decide +kernel, by decide +kernel⟩, List.mem_of_getElem? (i := 842) (by decide +kernel), List.mem_of_getElem? (i := 1098) (by decide +kernel), List.mem_of_getElem? (i := 1099) (by decide +kernel)⟩
theorem lw_p78 : lw_okq (⟨"NotTwiceModel", "part", "(Z)I"⟩, 51) := ⟨⟨by decide +kernel, by decide +kernel⟩, List.mem_of_getElem? (i := 842) (by decide +kernel), List.mem_of_getElem? (i := 1102) (by decide +kernel), List.mem_of_getElem? (i := 1103) (by decide +kernel)⟩
theorem lw_p79 : lw_okq (⟨"NotTwiceModel", "fail", "()V"⟩, 51) := ⟨⟨by decide +kernel, by decide +kernel⟩, List.mem_of_getElem? (i := 842) (by decide +kernel), List.mem_of_getElem? (i := 1106) (by decide +kernel), List.mem_of_getElem? (i := 1107) (by decide +kernel)⟩
def lw_privs_5 : List (MethodName × Nat) := [(⟨"NotTwice$Sheets", "carry", "(IIIII)V"⟩, 3), (⟨"NotTwice$Shelf", "isUnder", "(II)Z"⟩, 5), (⟨"NotTwiceModel", "spell", "(IIIIIIIII)V"⟩, 51), (⟨"NotTwiceModel", "isStory", "(I)Z"⟩, 51), (⟨"NotTwiceModel", "parts", "(I)V"⟩, 51), (⟨"NotTwiceModel", "isPerson", "(I)Z"⟩, 51), (⟨"NotTwiceModel", "stays", "(I)I"⟩, 51), (⟨"NotTwiceModel", "counts", "(II)I"⟩, 51), (⟨"NotTwiceModel", "known", "(I)I"⟩, 51), (⟨"NotTwiceModel", "read", "(II)I"⟩, 51), (⟨"NotTwiceModel", "next", "()V"⟩, 51), (⟨"NotTwiceModel", "byteAt", "(I)I"⟩, 51), (⟨"NotTwiceModel", "isWord", "(IIIIIIII)Z"⟩, 51), (⟨"NotTwiceModel", "isLetter", "(II)Z"⟩, 51), (⟨"NotTwiceModel", "part", "(Z)I"⟩, 51), (⟨"NotTwiceModel", "fail", "()V"⟩, 51)]
theorem lw_r5 : ∀ q ∈ lw_privs_5, lw_okq q := List.forall_mem_cons.mpr ⟨lw_p64, List.forall_mem_cons.mpr ⟨lw_p65, List.forall_mem_cons.mpr ⟨lw_p66, List.forall_mem_cons.mpr ⟨lw_p67, List.forall_mem_cons.mpr ⟨lw_p68, List.forall_mem_cons.mpr ⟨lw_p69, List.forall_mem_cons.mpr ⟨lw_p70, List.forall_mem_cons.mpr ⟨lw_p71, List.forall_mem_cons.mpr ⟨lw_p72, List.forall_mem_cons.mpr ⟨lw_p73, List.forall_mem_cons.mpr ⟨lw_p74, List.forall_mem_cons.mpr ⟨lw_p75, List.forall_mem_cons.mpr ⟨lw_p76, List.forall_mem_cons.mpr ⟨lw_p77, List.forall_mem_cons.mpr ⟨lw_p78, List.forall_mem_cons.mpr ⟨lw_p79, fun _ h => absurd h List.not_mem_nil⟩⟩⟩⟩⟩⟩⟩⟩⟩⟩⟩⟩⟩⟩⟩⟩
theorem lw_p80 : lw_okq (⟨"NotTwiceModel", "either", "()I"⟩, 51) := ⟨⟨by decide +kernel, by decide +kernel⟩, List.mem_of_getElem? (i := 842) (by decide +kernel), List.mem_of_getElem? (i := 1110) (by decide +kernel), List.mem_of_getElem? (i := 1111) (by decide +kernel)⟩
theorem lw_p81 : lw_okq (⟨"NotTwiceModel", "both", "()I"⟩, 51) := ⟨⟨by decide +kernel, by decide +kernel⟩, List.mem_of_getElem? (i := 842) (by decide +kernel), List.mem_of_getElem? (i := 1114) (by decide +kernel), List.mem_of_getElem? (i := 1115) (by decide +kernel)⟩
theorem lw_p82 : lw_okq (⟨"NotTwiceModel", "not", "()I"⟩, 51) := ⟨⟨by decide +kernel, by decide +kernel⟩, List.mem_of_getElem? (i := 842) (by decide +kernel), List.mem_of_getElem? (i := 1118) (by decide +kernel), List.mem_of_getElem? (i := 1119) (by decide +kernel)⟩
theorem lw_p83 : lw_okq (⟨"NotTwiceModel", "opens", "()Z"⟩, 51) := ⟨⟨by decide +kernel, by decide +kernel⟩, List.mem_of_getElem? (i := 842) (by decide +kernel), List.mem_of_getElem? (i := 1122) (by decide +kernel), List.mem_of_getElem? (i := 1123) (by decide +kernel)⟩
theorem lw_p84 : lw_okq (⟨"NotTwiceModel", "added", "()I"⟩, 51) := ⟨⟨by decide +kernel, by decide +kernel⟩, List.mem_of_getElem? (i := 842) (by decide +kernel), List.mem_of_getElem? (i := 1126) (by decide +kernel), List.mem_of_getElem? (i := 1127) (by decide +kernel)⟩
theorem lw_p85 : lw_okq (⟨"NotTwiceModel", "term", "()I"⟩, 51) := ⟨⟨by decide +kernel, by decide +kernel⟩, List.mem_of_getElem? (i := 842) (by decide +kernel), List.mem_of_getElem? (i := 1130) (by decide +kernel), List.mem_of_getElem? (i := 1131) (by decide +kernel)⟩
theorem lw_p86 : lw_okq (⟨"NotTwiceModel", "atom", "()I"⟩, 51) := ⟨⟨by decide +kernel, by decide +kernel⟩, List.mem_of_getElem? (i := 842) (by decide +kernel), List.mem_of_getElem? (i := 1134) (by decide +kernel), List.mem_of_getElem? (i := 1135) (by decide +kernel)⟩
theorem lw_p87 : lw_okq (⟨"NotTwiceModel", "isSign", "(I)Z"⟩, 51) := ⟨⟨by decide +kernel, by decide +kernel⟩, List.mem_of_getElem? (i := 842) (by decide +kernel), List.mem_of_getElem? (i := 1138) (by decide +kernel), List.mem_of_getElem? (i := 1139) (by decide +kernel)⟩
theorem lw_p88 : lw_okq (⟨"NotTwiceModel", "name", "()I"⟩, 51) := ⟨⟨by decide +kernel, by decide +kernel⟩, List.mem_of_getElem? (i := 842) (by decide +kernel), List.mem_of_getElem? (i := 1142) (by decide +kernel), List.mem_of_getElem? (i := 1143) (by decide +kernel)⟩
theorem lw_p89 : lw_okq (⟨"NotTwiceModel", "allMay", "(I)I"⟩, 51) := ⟨⟨by decide +kernel, by decide +kernel⟩, List.mem_of_getElem? (i := 842) (by decide +kernel), List.mem_of_getElem? (i := 1159) (by decide +kernel), List.mem_of_getElem? (i := 1160) (by decide +kernel)⟩
theorem lw_p90 : lw_okq (⟨"NotTwiceModel", "teller", "(II)I"⟩, 51) := ⟨⟨by decide +kernel, by decide +kernel⟩, List.mem_of_getElem? (i := 842) (by decide +kernel), List.mem_of_getElem? (i := 1163) (by decide +kernel), List.mem_of_getElem? (i := 1164) (by decide +kernel)⟩
theorem lw_p91 : lw_okq (⟨"NotTwiceModel", "sitting", "(I)I"⟩, 51) := ⟨⟨by decide +kernel, by decide +kernel⟩, List.mem_of_getElem? (i := 842) (by decide +kernel), List.mem_of_getElem? (i := 1167) (by decide +kernel), List.mem_of_getElem? (i := 1168) (by decide +kernel)⟩
theorem lw_p92 : lw_okq (⟨"NotTwiceModel", "mayTell", "(III)Z"⟩, 51) := ⟨⟨by decide +kernel, by decide +kernel⟩, List.mem_of_getElem? (i := 842) (by decide +kernel), List.mem_of_getElem? (i := 1171) (by decide +kernel), List.mem_of_getElem? (i := 1172) (by decide +kernel)⟩
theorem lw_p93 : lw_okq (⟨"NotTwiceModel", "knowers", "(I)I"⟩, 51) := ⟨⟨by decide +kernel, by decide +kernel⟩, List.mem_of_getElem? (i := 842) (by decide +kernel), List.mem_of_getElem? (i := 1175) (by decide +kernel), List.mem_of_getElem? (i := 1176) (by decide +kernel)⟩
theorem lw_p94 : lw_okq (⟨"NotTwiceModel", "says", "(IIII)I"⟩, 51) := ⟨⟨by decide +kernel, by decide +kernel⟩, List.mem_of_getElem? (i := 842) (by decide +kernel), List.mem_of_getElem? (i := 1182) (by decide +kernel), List.mem_of_getElem? (i := 1183) (by decide +kernel)⟩
theorem lw_p95 : lw_okq (⟨"NotTwiceModel", "worthBy", "(III)I"⟩, 51) := ⟨⟨by decide +kernel, by decide +kernel⟩, List.mem_of_getElem? (i := 842) (by decide +kernel), List.mem_of_getElem? (i := 1195) (by decide +kernel), List.mem_of_getElem? (i := 1196) (by decide +kernel)⟩
def lw_privs_6 : List (MethodName × Nat) := [(⟨"NotTwiceModel", "either", "()I"⟩, 51), (⟨"NotTwiceModel", "both", "()I"⟩, 51), (⟨"NotTwiceModel", "not", "()I"⟩, 51), (⟨"NotTwiceModel", "opens", "()Z"⟩, 51), (⟨"NotTwiceModel", "added", "()I"⟩, 51), (⟨"NotTwiceModel", "term", "()I"⟩, 51), (⟨"NotTwiceModel", "atom", "()I"⟩, 51), (⟨"NotTwiceModel", "isSign", "(I)Z"⟩, 51), (⟨"NotTwiceModel", "name", "()I"⟩, 51), (⟨"NotTwiceModel", "allMay", "(I)I"⟩, 51), (⟨"NotTwiceModel", "teller", "(II)I"⟩, 51), (⟨"NotTwiceModel", "sitting", "(I)I"⟩, 51), (⟨"NotTwiceModel", "mayTell", "(III)Z"⟩, 51), (⟨"NotTwiceModel", "knowers", "(I)I"⟩, 51), (⟨"NotTwiceModel", "says", "(IIII)I"⟩, 51), (⟨"NotTwiceModel", "worthBy", "(III)I"⟩, 51)]
theorem lw_r6 : ∀ q ∈ lw_privs_6, lw_okq q := List.forall_mem_cons.mpr ⟨lw_p80, List.forall_mem_cons.mpr ⟨lw_p81, List.forall_mem_cons.mpr ⟨lw_p82, List.forall_mem_cons.mpr ⟨lw_p83, List.forall_mem_cons.mpr ⟨lw_p84, List.forall_mem_cons.mpr ⟨lw_p85, List.forall_mem_cons.mpr ⟨lw_p86, List.forall_mem_cons.mpr ⟨lw_p87, List.forall_mem_cons.mpr ⟨lw_p88, List.forall_mem_cons.mpr ⟨lw_p89, List.forall_mem_cons.mpr ⟨lw_p90, List.forall_mem_cons.mpr ⟨lw_p91, List.forall_mem_cons.mpr ⟨lw_p92, List.forall_mem_cons.mpr ⟨lw_p93, List.forall_mem_cons.mpr ⟨lw_p94, List.forall_mem_cons.mpr ⟨lw_p95, fun _ h => absurd h List.not_mem_nil⟩⟩⟩⟩⟩⟩⟩⟩⟩⟩⟩⟩⟩⟩⟩⟩
theorem lw_p96 : lw_okq (⟨"NotTwiceModel", "best", "(I)I"⟩, 51) := ⟨⟨by decide +kernel, by decide +kernel⟩, List.mem_of_getElem? (i := 842) (by decide +kernel), List.mem_of_getElem? (i := 1206) (by decide +kernel), List.mem_of_getElem? (i := 1207) (by decide +kernel)⟩
theorem lw_p97 : lw_okq (⟨"NotTwiceModel", "tellIn", "(III)I"⟩, 51) := ⟨⟨by decide +kernel, by decide +kernel⟩, List.mem_of_getElem? (i := 842) (by decide +kernel), List.mem_of_getElem? (i := 1214) (by decide +kernel), List.mem_of_getElem? (i := 1215) (by decide +kernel)⟩
theorem lw_p98 : lw_okq (⟨"NotTwiceModel", "laysAside", "()V"⟩, 51) := ⟨⟨by decide +kernel, by decide +kernel⟩, List.mem_of_getElem? (i := 842) (by decide +kernel), List.mem_of_getElem? (i := 1226) (by decide +kernel), List.mem_of_getElem? (i := 1227) (by decide +kernel)⟩
theorem lw_p99 : lw_okq (⟨"NotTwiceModel", "canAll", "(II)Z"⟩, 51) := ⟨⟨by decide +kernel, by decide +kernel⟩, List.mem_of_getElem? (i := 842) (by decide +kernel), List.mem_of_getElem? (i := 1230) (by decide +kernel), List.mem_of_getElem? (i := 1231) (by decide +kernel)⟩
theorem lw_p100 : lw_okq (⟨"NotTwiceModel", "laysBack", "()V"⟩, 51) := ⟨⟨by decide +kernel, by decide +kernel⟩, List.mem_of_getElem? (i := 842) (by decide +kernel), List.mem_of_getElem? (i := 1234) (by decide +kernel), List.mem_of_getElem? (i := 1235) (by decide +kernel)⟩
theorem lw_p101 : lw_okq (⟨"NotTwiceModel", "housesWith", "(II)I"⟩, 51) := ⟨⟨by decide +kernel, by decide +kernel⟩, List.mem_of_getElem? (i := 842) (by decide +kernel), List.mem_of_getElem? (i := 1242) (by decide +kernel), List.mem_of_getElem? (i := 1243) (by decide +kernel)⟩
theorem lw_p102 : lw_okq (⟨"NotTwiceModel", "anyMay", "(I)Z"⟩, 51) := ⟨⟨by decide +kernel, by decide +kernel⟩, List.mem_of_getElem? (i := 842) (by decide +kernel), List.mem_of_getElem? (i := 1249) (by decide +kernel), List.mem_of_getElem? (i := 1250) (by decide +kernel)⟩
theorem lw_p103 : lw_okq (⟨"NotTwiceModel", "isTired", "(III)Z"⟩, 51) := ⟨⟨by decide +kernel, by decide +kernel⟩, List.mem_of_getElem? (i := 842) (by decide +kernel), List.mem_of_getElem? (i := 1253) (by decide +kernel), List.mem_of_getElem? (i := 1254) (by decide +kernel)⟩
def lw_privs_7 : List (MethodName × Nat) := [(⟨"NotTwiceModel", "best", "(I)I"⟩, 51), (⟨"NotTwiceModel", "tellIn", "(III)I"⟩, 51), (⟨"NotTwiceModel", "laysAside", "()V"⟩, 51), (⟨"NotTwiceModel", "canAll", "(II)Z"⟩, 51), (⟨"NotTwiceModel", "laysBack", "()V"⟩, 51), (⟨"NotTwiceModel", "housesWith", "(II)I"⟩, 51), (⟨"NotTwiceModel", "anyMay", "(I)Z"⟩, 51), (⟨"NotTwiceModel", "isTired", "(III)Z"⟩, 51)]
theorem lw_r7 : ∀ q ∈ lw_privs_7, lw_okq q := List.forall_mem_cons.mpr ⟨lw_p96, List.forall_mem_cons.mpr ⟨lw_p97, List.forall_mem_cons.mpr ⟨lw_p98, List.forall_mem_cons.mpr ⟨lw_p99, List.forall_mem_cons.mpr ⟨lw_p100, List.forall_mem_cons.mpr ⟨lw_p101, List.forall_mem_cons.mpr ⟨lw_p102, List.forall_mem_cons.mpr ⟨lw_p103, fun _ h => absurd h List.not_mem_nil⟩⟩⟩⟩⟩⟩⟩⟩
def lw_privs : List (MethodName × Nat) := lw_privs_1 ++ (lw_privs_2 ++ (lw_privs_3 ++ (lw_privs_4 ++ (lw_privs_5 ++ (lw_privs_6 ++ (lw_privs_7))))))
def lw_tbl : List Cond := k2_sels lw_privs ++ tables_1
theorem lw_privs_ok : ∀ q ∈ lw_privs, lw_okq q := by
  show ∀ q ∈ lw_privs_1 ++ (lw_privs_2 ++ (lw_privs_3 ++ (lw_privs_4 ++ (lw_privs_5 ++ (lw_privs_6 ++ (lw_privs_7)))))), lw_okq q
  exact List.forall_mem_append.mpr ⟨lw_r1, List.forall_mem_append.mpr ⟨lw_r2, List.forall_mem_append.mpr ⟨lw_r3, List.forall_mem_append.mpr ⟨lw_r4, List.forall_mem_append.mpr ⟨lw_r5, List.forall_mem_append.mpr ⟨lw_r6, lw_r7⟩⟩⟩⟩⟩⟩
-- ===== end of PART A; then your names; then what follows =====
def RX0 : String := "NotTwice$People"
def TX0 : u_T := fun k => match k with
  | 0 => ("NotTwice$People", "shelf", "LNotTwice$Shelf;", true)
  | 1 => ("NotTwice$People", "texts", "LNotTwice$Texts;", true)
  | 2 => ("NotTwice$People", "house", "[I", true)
  | 3 => ("NotTwice$People", "age", "[I", true)
  | 4 => ("NotTwice$People", "tells", "[I", true)
  | 5 => ("NotTwice$People", "heard", "[I", true)
  | 6 => ("NotTwice$People", "since", "[I", true)
  | 7 => ("NotTwice$People", "size", "I", false)
  | 8 => ("NotTwice$People", "night", "I", false)
  | 9 => ("NotTwice$People", "rule", "I", false)
  | 10 => ("NotTwice$People", "many", "I", false)
  | 11 => ("NotTwice$People", "known", "[I", true)
  | 12 => ("NotTwice$People", "knownToOne", "I", false)
  | _ => ("NotTwice$People", "knownToTwo", "I", false)
def tyX0 : Nat → FieldType := fun k => match k with
  | 0 => .object "NotTwice$Shelf"
  | 1 => .object "NotTwice$Texts"
  | 2 => .array .int
  | 3 => .array .int
  | 4 => .array .int
  | 5 => .array .int
  | 6 => .array .int
  | 7 => .int
  | 8 => .int
  | 9 => .int
  | 10 => .int
  | 11 => .array .int
  | 12 => .int
  | _ => .int
abbrev wsX00 : List Cond := u_ws RX0 TX0 14
theorem nmX0 : ∀ a, a < 14 → ∀ b, b < 14 → a ≠ b → (TX0 a).2.1 ≠ (TX0 b).2.1 := by decide +kernel
theorem tyX0_ok : ∀ k, k < 14 → parseFieldDescriptor (TX0 k).2.2.1 = some (tyX0 k) := by decide +kernel
abbrev cX0_init : ByteArray := prog_2_method_1_code
def yX0_init : MethodName := ⟨RX0, "<init>", "(LNotTwice$Shelf;LNotTwice$Texts;)V"⟩
abbrev cX0_has : ByteArray := prog_2_method_2_code
def yX0_has : MethodName := ⟨RX0, "has", "(I)Z"⟩
abbrev cX0_come : ByteArray := prog_2_method_3_code
def yX0_come : MethodName := ⟨RX0, "come", "(II)I"⟩
abbrev cX0_sit : ByteArray := prog_2_method_4_code
def yX0_sit : MethodName := ⟨RX0, "sit", "(III)V"⟩
abbrev cX0_takeAll : ByteArray := prog_2_method_5_code
def yX0_takeAll : MethodName := ⟨RX0, "takeAll", "(LNotTwice$People;)V"⟩
abbrev cX0_goBackTo : ByteArray := prog_2_method_6_code
def yX0_goBackTo : MethodName := ⟨RX0, "goBackTo", "(LNotTwice$People;)V"⟩
abbrev cX0_hear : ByteArray := prog_2_method_7_code
def yX0_hear : MethodName := ⟨RX0, "hear", "(II)V"⟩
abbrev cX0_forget : ByteArray := prog_2_method_8_code
def yX0_forget : MethodName := ⟨RX0, "forget", "(II)V"⟩
abbrev cX0_knows : ByteArray := prog_2_method_9_code
def yX0_knows : MethodName := ⟨RX0, "knows", "(I)I"⟩
abbrev cX0_lookInto : ByteArray := prog_2_method_10_code
def yX0_lookInto : MethodName := ⟨RX0, "lookInto", "(I)V"⟩
abbrev cX0_newToOthers : ByteArray := prog_2_method_11_code
def yX0_newToOthers : MethodName := ⟨RX0, "newToOthers", "(I)I"⟩
abbrev cX0_tellableOf : ByteArray := prog_2_method_12_code
def yX0_tellableOf : MethodName := ⟨RX0, "tellableOf", "(II)I"⟩
abbrev cX0_tellableBy : ByteArray := prog_2_method_13_code
def yX0_tellableBy : MethodName := ⟨RX0, "tellableBy", "(I)I"⟩
abbrev cX0_tellableIn : ByteArray := prog_2_method_14_code
def yX0_tellableIn : MethodName := ⟨RX0, "tellableIn", "(I)I"⟩
abbrev cX0_unheardIn : ByteArray := prog_2_method_15_code
def yX0_unheardIn : MethodName := ⟨RX0, "unheardIn", "(I)I"⟩
abbrev cX0_byWhom : ByteArray := prog_2_method_16_code
def yX0_byWhom : MethodName := ⟨RX0, "byWhom", "(II)I"⟩
abbrev cX0_firstTeller : ByteArray := prog_2_method_17_code
def yX0_firstTeller : MethodName := ⟨RX0, "firstTeller", "(II)I"⟩
abbrev cX0_worthOf : ByteArray := prog_2_method_18_code
def yX0_worthOf : MethodName := ⟨RX0, "worthOf", "(II)J"⟩
abbrev cX0_worthBy : ByteArray := prog_2_method_19_code
def yX0_worthBy : MethodName := ⟨RX0, "worthBy", "(II)J"⟩
abbrev cX0_bestOf : ByteArray := prog_2_method_20_code
def yX0_bestOf : MethodName := ⟨RX0, "bestOf", "(I)I"⟩
abbrev cX0_spend : ByteArray := prog_2_method_21_code
def yX0_spend : MethodName := ⟨RX0, "spend", "(II)I"⟩
abbrev cX0_sleep : ByteArray := prog_2_method_22_code
def yX0_sleep : MethodName := ⟨RX0, "sleep", "()V"⟩
abbrev cX0_value : ByteArray := prog_2_method_23_code
def yX0_value : MethodName := ⟨RX0, "value", "(IIII)I"⟩
abbrev cX0_bounded : ByteArray := prog_2_method_24_code
def yX0_bounded : MethodName := ⟨RX0, "bounded", "(II)I"⟩
def RX1 : String := "NotTwice$Reader"
def TX1 : u_T := fun k => match k with
  | 0 => ("NotTwice$Reader", "tape", "[I", true)
  | 1 => ("NotTwice$Reader", "size", "I", false)
  | 2 => ("NotTwice$Reader", "at", "I", false)
  | 3 => ("NotTwice$Reader", "token", "I", false)
  | 4 => ("NotTwice$Reader", "tokenAt", "I", false)
  | 5 => ("NotTwice$Reader", "open", "I", false)
  | 6 => ("NotTwice$Reader", "code", "[I", true)
  | 7 => ("NotTwice$Reader", "codeSize", "I", false)
  | _ => ("NotTwice$Reader", "partAt", "[I", true)
def tyX1 : Nat → FieldType := fun k => match k with
  | 0 => .array .int
  | 1 => .int
  | 2 => .int
  | 3 => .int
  | 4 => .int
  | 5 => .int
  | 6 => .array .int
  | 7 => .int
  | _ => .array .int
abbrev wsX10 : List Cond := u_ws RX1 TX1 9
theorem nmX1 : ∀ a, a < 9 → ∀ b, b < 9 → a ≠ b → (TX1 a).2.1 ≠ (TX1 b).2.1 := by decide +kernel
theorem tyX1_ok : ∀ k, k < 9 → parseFieldDescriptor (TX1 k).2.2.1 = some (tyX1 k) := by decide +kernel
abbrev cX1_init : ByteArray := prog_3_method_1_code
def yX1_init : MethodName := ⟨RX1, "<init>", "()V"⟩
abbrev cX1_put : ByteArray := prog_3_method_2_code
def yX1_put : MethodName := ⟨RX1, "put", "(I)I"⟩
abbrev cX1_putFirstText : ByteArray := prog_3_method_3_code
def yX1_putFirstText : MethodName := ⟨RX1, "putFirstText", "()V"⟩
abbrev cX1_empty : ByteArray := prog_3_method_4_code
def yX1_empty : MethodName := ⟨RX1, "empty", "()V"⟩
abbrev cX1_place : ByteArray := prog_3_method_5_code
def yX1_place : MethodName := ⟨RX1, "place", "()I"⟩
abbrev cX1_made : ByteArray := prog_3_method_6_code
def yX1_made : MethodName := ⟨RX1, "made", "()LNotTwice$Rule;"⟩
abbrev cX1_reads : ByteArray := prog_3_method_7_code
def yX1_reads : MethodName := ⟨RX1, "reads", "()Z"⟩
abbrev cX1_readsLevel : ByteArray := prog_3_method_8_code
def yX1_readsLevel : MethodName := ⟨RX1, "readsLevel", "(I)Z"⟩
abbrev cX1_levelOf : ByteArray := prog_3_method_9_code
def yX1_levelOf : MethodName := ⟨RX1, "levelOf", "(I)I"⟩
abbrev cX1_readsOpened : ByteArray := prog_3_method_10_code
def yX1_readsOpened : MethodName := ⟨RX1, "readsOpened", "()Z"⟩
abbrev cX1_readsPlain : ByteArray := prog_3_method_11_code
def yX1_readsPlain : MethodName := ⟨RX1, "readsPlain", "()Z"⟩
abbrev cX1_takes : ByteArray := prog_3_method_12_code
def yX1_takes : MethodName := ⟨RX1, "takes", "(I)Z"⟩
abbrev cX1_write : ByteArray := prog_3_method_13_code
def yX1_write : MethodName := ⟨RX1, "write", "(I)V"⟩
abbrev cX1_step : ByteArray := prog_3_method_14_code
def yX1_step : MethodName := ⟨RX1, "step", "()V"⟩
abbrev cX1_isLetter : ByteArray := prog_3_method_15_code
def yX1_isLetter : MethodName := ⟨RX1, "isLetter", "(I)Z"⟩
abbrev cX1_isDigit : ByteArray := prog_3_method_16_code
def yX1_isDigit : MethodName := ⟨RX1, "isDigit", "(I)Z"⟩
abbrev cX1_numeral : ByteArray := prog_3_method_17_code
def yX1_numeral : MethodName := ⟨RX1, "numeral", "()I"⟩
abbrev cX1_word : ByteArray := prog_3_method_18_code
def yX1_word : MethodName := ⟨RX1, "word", "()I"⟩
def RX2 : String := "NotTwice$Rule"
def TX2 : u_T := fun k => match k with
  | 0 => ("NotTwice$Rule", "code", "[I", true)
  | 1 => ("NotTwice$Rule", "paysAt", "I", true)
  | _ => ("NotTwice$Rule", "tiresAt", "I", true)
def tyX2 : Nat → FieldType := fun k => match k with
  | 0 => .array .int
  | 1 => .int
  | _ => .int
abbrev wsX20 : List Cond := u_ws RX2 TX2 3
theorem nmX2 : ∀ a, a < 3 → ∀ b, b < 3 → a ≠ b → (TX2 a).2.1 ≠ (TX2 b).2.1 := by decide +kernel
theorem tyX2_ok : ∀ k, k < 3 → parseFieldDescriptor (TX2 k).2.2.1 = some (tyX2 k) := by decide +kernel
abbrev cX2_init : ByteArray := prog_4_method_1_code
def yX2_init : MethodName := ⟨RX2, "<init>", "([IIII)V"⟩
abbrev cX2_value : ByteArray := prog_4_method_2_code
def yX2_value : MethodName := ⟨RX2, "value", "(I[I[I)I"⟩
abbrev cX2_joined : ByteArray := prog_4_method_3_code
def yX2_joined : MethodName := ⟨RX2, "joined", "(III)I"⟩
def RX3 : String := "NotTwice$Seating"
def TX3 : u_T := fun k => match k with
  | 0 => ("NotTwice$Seating", "people", "LNotTwice$People;", true)
  | 1 => ("NotTwice$Seating", "seat", "[I", true)
  | 2 => ("NotTwice$Seating", "bestSeat", "[I", true)
  | 3 => ("NotTwice$Seating", "best", "I", false)
  | 4 => ("NotTwice$Seating", "known", "[I", true)
  | 5 => ("NotTwice$Seating", "awake", "[I", true)
  | 6 => ("NotTwice$Seating", "many", "[I", true)
  | 7 => ("NotTwice$Seating", "knownToOne", "[I", true)
  | _ => ("NotTwice$Seating", "knownToTwo", "[I", true)
def tyX3 : Nat → FieldType := fun k => match k with
  | 0 => .object "NotTwice$People"
  | 1 => .array .int
  | 2 => .array .int
  | 3 => .int
  | 4 => .array .int
  | 5 => .array .int
  | 6 => .array .int
  | 7 => .array .int
  | _ => .array .int
abbrev wsX30 : List Cond := u_ws RX3 TX3 9
theorem nmX3 : ∀ a, a < 9 → ∀ b, b < 9 → a ≠ b → (TX3 a).2.1 ≠ (TX3 b).2.1 := by decide +kernel
theorem tyX3_ok : ∀ k, k < 9 → parseFieldDescriptor (TX3 k).2.2.1 = some (tyX3 k) := by decide +kernel
abbrev cX3_init : ByteArray := prog_5_method_1_code
def yX3_init : MethodName := ⟨RX3, "<init>", "(LNotTwice$People;)V"⟩
abbrev cX3_waysOver : ByteArray := prog_5_method_2_code
def yX3_waysOver : MethodName := ⟨RX3, "waysOver", "(I)I"⟩
abbrev cX3_search : ByteArray := prog_5_method_3_code
def yX3_search : MethodName := ⟨RX3, "search", "(I)V"⟩
abbrev cX3_prepare : ByteArray := prog_5_method_4_code
def yX3_prepare : MethodName := ⟨RX3, "prepare", "()V"⟩
abbrev cX3_awakeOf : ByteArray := prog_5_method_5_code
def yX3_awakeOf : MethodName := ⟨RX3, "awakeOf", "(II)I"⟩
abbrev cX3_nextWay : ByteArray := prog_5_method_6_code
def yX3_nextWay : MethodName := ⟨RX3, "nextWay", "(I)V"⟩
abbrev cX3_housesWithStory : ByteArray := prog_5_method_7_code
def yX3_housesWithStory : MethodName := ⟨RX3, "housesWithStory", "(I)I"⟩
abbrev cX3_fillHouses : ByteArray := prog_5_method_8_code
def yX3_fillHouses : MethodName := ⟨RX3, "fillHouses", "(I)V"⟩
def RX4 : String := "NotTwice$Sheets"
def TX4 : u_T := fun k => match k with
  | 0 => ("NotTwice$Sheets", "sort", "[I", true)
  | 1 => ("NotTwice$Sheets", "size", "[I", true)
  | _ => ("NotTwice$Sheets", "items", "[I", true)
def tyX4 : Nat → FieldType := fun k => match k with
  | 0 => .array .int
  | 1 => .array .int
  | _ => .array .int
abbrev wsX40 : List Cond := u_ws RX4 TX4 3
theorem nmX4 : ∀ a, a < 3 → ∀ b, b < 3 → a ≠ b → (TX4 a).2.1 ≠ (TX4 b).2.1 := by decide +kernel
theorem tyX4_ok : ∀ k, k < 3 → parseFieldDescriptor (TX4 k).2.2.1 = some (tyX4 k) := by decide +kernel
abbrev cX4_init : ByteArray := prog_6_method_1_code
def yX4_init : MethodName := ⟨RX4, "<init>", "()V"⟩
abbrev cX4_has : ByteArray := prog_6_method_2_code
def yX4_has : MethodName := ⟨RX4, "has", "(I)Z"⟩
abbrev cX4_isMissing : ByteArray := prog_6_method_3_code
def yX4_isMissing : MethodName := ⟨RX4, "isMissing", "(I)Z"⟩
abbrev cX4_reaches : ByteArray := prog_6_method_4_code
def yX4_reaches : MethodName := ⟨RX4, "reaches", "(II)Z"⟩
abbrev cX4_hasRun : ByteArray := prog_6_method_5_code
def yX4_hasRun : MethodName := ⟨RX4, "hasRun", "(III)Z"⟩
abbrev cX4_lay : ByteArray := prog_6_method_6_code
def yX4_lay : MethodName := ⟨RX4, "lay", "(III)V"⟩
abbrev cX4_at : ByteArray := prog_6_method_7_code
def yX4_at : MethodName := ⟨RX4, "at", "(II)I"⟩
abbrev cX4_write : ByteArray := prog_6_method_8_code
def yX4_write : MethodName := ⟨RX4, "write", "(III)V"⟩
abbrev cX4_carry : ByteArray := prog_6_method_9_code
def yX4_carry : MethodName := ⟨RX4, "carry", "(IIIII)V"⟩
def RX5 : String := "NotTwice$Shelf"
def TX5 : u_T := fun k => match k with
  | 0 => ("NotTwice$Shelf", "kind", "[I", true)
  | 1 => ("NotTwice$Shelf", "worth", "[I", true)
  | 2 => ("NotTwice$Shelf", "number", "[I", true)
  | 3 => ("NotTwice$Shelf", "twin", "[I", true)
  | _ => ("NotTwice$Shelf", "size", "I", false)
def tyX5 : Nat → FieldType := fun k => match k with
  | 0 => .array .int
  | 1 => .array .int
  | 2 => .array .int
  | 3 => .array .int
  | _ => .int
abbrev wsX50 : List Cond := u_ws RX5 TX5 5
theorem nmX5 : ∀ a, a < 5 → ∀ b, b < 5 → a ≠ b → (TX5 a).2.1 ≠ (TX5 b).2.1 := by decide +kernel
theorem tyX5_ok : ∀ k, k < 5 → parseFieldDescriptor (TX5 k).2.2.1 = some (tyX5 k) := by decide +kernel
abbrev cX5_init : ByteArray := prog_7_method_1_code
def yX5_init : MethodName := ⟨RX5, "<init>", "()V"⟩
abbrev cX5_has : ByteArray := prog_7_method_2_code
def yX5_has : MethodName := ⟨RX5, "has", "(I)Z"⟩
abbrev cX5_all : ByteArray := prog_7_method_3_code
def yX5_all : MethodName := ⟨RX5, "all", "()I"⟩
abbrev cX5_add : ByteArray := prog_7_method_4_code
def yX5_add : MethodName := ⟨RX5, "add", "(III)I"⟩
abbrev cX5_join : ByteArray := prog_7_method_5_code
def yX5_join : MethodName := ⟨RX5, "join", "(II)V"⟩
abbrev cX5_part : ByteArray := prog_7_method_6_code
def yX5_part : MethodName := ⟨RX5, "part", "(I)V"⟩
abbrev cX5_withTwins : ByteArray := prog_7_method_7_code
def yX5_withTwins : MethodName := ⟨RX5, "withTwins", "(I)I"⟩
abbrev cX5_counts : ByteArray := prog_7_method_8_code
def yX5_counts : MethodName := ⟨RX5, "counts", "(II)I"⟩
abbrev cX5_stays : ByteArray := prog_7_method_9_code
def yX5_stays : MethodName := ⟨RX5, "stays", "(I)I"⟩
abbrev cX5_isUnder : ByteArray := prog_7_method_10_code
def yX5_isUnder : MethodName := ⟨RX5, "isUnder", "(II)Z"⟩
def RX6 : String := "NotTwice$Sign"
def TX6 : u_T := fun k => match k with
  | _ => ("", "", "", false)
def tyX6 : Nat → FieldType := fun k => match k with
  | _ => .int
abbrev wsX60 : List Cond := u_ws RX6 TX6 0
theorem nmX6 : ∀ a, a < 0 → ∀ b, b < 0 → a ≠ b → (TX6 a).2.1 ≠ (TX6 b).2.1 := by decide +kernel
theorem tyX6_ok : ∀ k, k < 0 → parseFieldDescriptor (TX6 k).2.2.1 = some (tyX6 k) := by decide +kernel
def RX7 : String := "NotTwice$Texts"
def TX7 : u_T := fun k => match k with
  | 0 => ("NotTwice$Texts", "rules", "[LNotTwice$Rule;", true)
  | 1 => ("NotTwice$Texts", "names", "[I", true)
  | 2 => ("NotTwice$Texts", "stack", "[I", true)
  | _ => ("NotTwice$Texts", "size", "I", false)
def tyX7 : Nat → FieldType := fun k => match k with
  | 0 => .array (.object "NotTwice$Rule")
  | 1 => .array .int
  | 2 => .array .int
  | _ => .int
abbrev wsX70 : List Cond := u_ws RX7 TX7 4
theorem nmX7 : ∀ a, a < 4 → ∀ b, b < 4 → a ≠ b → (TX7 a).2.1 ≠ (TX7 b).2.1 := by decide +kernel
theorem tyX7_ok : ∀ k, k < 4 → parseFieldDescriptor (TX7 k).2.2.1 = some (tyX7 k) := by decide +kernel
abbrev cX7_init : ByteArray := prog_9_method_1_code
def yX7_init : MethodName := ⟨RX7, "<init>", "()V"⟩
abbrev cX7_has : ByteArray := prog_9_method_2_code
def yX7_has : MethodName := ⟨RX7, "has", "(I)Z"⟩
abbrev cX7_at : ByteArray := prog_9_method_3_code
def yX7_at : MethodName := ⟨RX7, "at", "(I)LNotTwice$Rule;"⟩
abbrev cX7_isFull : ByteArray := prog_9_method_4_code
def yX7_isFull : MethodName := ⟨RX7, "isFull", "()Z"⟩
abbrev cX7_add : ByteArray := prog_9_method_5_code
def yX7_add : MethodName := ⟨RX7, "add", "(LNotTwice$Rule;)I"⟩
def RX8 : String := "NotTwice"
def TX8 : u_T := fun k => match k with
  | 0 => ("NotTwice", "shelf", "LNotTwice$Shelf;", true)
  | 1 => ("NotTwice", "texts", "LNotTwice$Texts;", true)
  | 2 => ("NotTwice", "reader", "LNotTwice$Reader;", true)
  | 3 => ("NotTwice", "now", "LNotTwice$People;", true)
  | 4 => ("NotTwice", "thought", "LNotTwice$People;", true)
  | 5 => ("NotTwice", "image", "LNotTwice$People;", true)
  | 6 => ("NotTwice", "seating", "LNotTwice$Seating;", true)
  | 7 => ("NotTwice", "sheets", "LNotTwice$Sheets;", true)
  | _ => ("NotTwice", "imageKept", "Z", false)
def tyX8 : Nat → FieldType := fun k => match k with
  | 0 => .object "NotTwice$Shelf"
  | 1 => .object "NotTwice$Texts"
  | 2 => .object "NotTwice$Reader"
  | 3 => .object "NotTwice$People"
  | 4 => .object "NotTwice$People"
  | 5 => .object "NotTwice$People"
  | 6 => .object "NotTwice$Seating"
  | 7 => .object "NotTwice$Sheets"
  | _ => .boolean
abbrev wsX80 : List Cond := u_ws RX8 TX8 9
theorem nmX8 : ∀ a, a < 9 → ∀ b, b < 9 → a ≠ b → (TX8 a).2.1 ≠ (TX8 b).2.1 := by decide +kernel
theorem tyX8_ok : ∀ k, k < 9 → parseFieldDescriptor (TX8 k).2.2.1 = some (tyX8 k) := by decide +kernel
abbrev cX8_init : ByteArray := prog_1_method_1_code
def yX8_init : MethodName := ⟨RX8, "<init>", "()V"⟩
abbrev cX8_story : ByteArray := prog_1_method_2_code
def yX8_story : MethodName := ⟨RX8, "story", "(III)I"⟩
abbrev cX8_twin : ByteArray := prog_1_method_3_code
def yX8_twin : MethodName := ⟨RX8, "twin", "(II)I"⟩
abbrev cX8_person : ByteArray := prog_1_method_4_code
def yX8_person : MethodName := ⟨RX8, "person", "(II)I"⟩
abbrev cX8_set : ByteArray := prog_1_method_5_code
def yX8_set : MethodName := ⟨RX8, "set", "(III)I"⟩
abbrev cX8_hears : ByteArray := prog_1_method_6_code
def yX8_hears : MethodName := ⟨RX8, "hears", "(III)I"⟩
abbrev cX8_told : ByteArray := prog_1_method_7_code
def yX8_told : MethodName := ⟨RX8, "told", "(III)I"⟩
abbrev cX8_one : ByteArray := prog_1_method_8_code
def yX8_one : MethodName := ⟨RX8, "one", "(II)I"⟩
abbrev cX8_feed : ByteArray := prog_1_method_9_code
def yX8_feed : MethodName := ⟨RX8, "feed", "(I)I"⟩
abbrev cX8_text : ByteArray := prog_1_method_10_code
def yX8_text : MethodName := ⟨RX8, "text", "()I"⟩
abbrev cX8_force : ByteArray := prog_1_method_11_code
def yX8_force : MethodName := ⟨RX8, "force", "(I)I"⟩
abbrev cX8_may : ByteArray := prog_1_method_12_code
def yX8_may : MethodName := ⟨RX8, "may", "(I)I"⟩
abbrev cX8_by : ByteArray := prog_1_method_13_code
def yX8_by : MethodName := ⟨RX8, "by", "(II)I"⟩
abbrev cX8_worth : ByteArray := prog_1_method_14_code
def yX8_worth : MethodName := ⟨RX8, "worth", "(II)J"⟩
abbrev cX8_most : ByteArray := prog_1_method_15_code
def yX8_most : MethodName := ⟨RX8, "most", "(II)J"⟩
abbrev cX8_tell : ByteArray := prog_1_method_16_code
def yX8_tell : MethodName := ⟨RX8, "tell", "(II)I"⟩
abbrev cX8_pass : ByteArray := prog_1_method_17_code
def yX8_pass : MethodName := ⟨RX8, "pass", "()I"⟩
abbrev cX8_goesOn : ByteArray := prog_1_method_18_code
def yX8_goesOn : MethodName := ⟨RX8, "goesOn", "(II)I"⟩
abbrev cX8_spread : ByteArray := prog_1_method_19_code
def yX8_spread : MethodName := ⟨RX8, "spread", "(II)I"⟩
abbrev cX8_keepAway : ByteArray := prog_1_method_20_code
def yX8_keepAway : MethodName := ⟨RX8, "keepAway", "(I)I"⟩
abbrev cX8_send : ByteArray := prog_1_method_21_code
def yX8_send : MethodName := ⟨RX8, "send", "(II)I"⟩
abbrev cX8_stranger : ByteArray := prog_1_method_22_code
def yX8_stranger : MethodName := ⟨RX8, "stranger", "(III)I"⟩
abbrev cX8_left : ByteArray := prog_1_method_23_code
def yX8_left : MethodName := ⟨RX8, "left", "()I"⟩
abbrev cX8_judge : ByteArray := prog_1_method_24_code
def yX8_judge : MethodName := ⟨RX8, "judge", "(I)I"⟩
abbrev cX8_drawn : ByteArray := prog_1_method_25_code
def yX8_drawn : MethodName := ⟨RX8, "drawn", "(II)I"⟩
abbrev cX8_image : ByteArray := prog_1_method_26_code
def yX8_image : MethodName := ⟨RX8, "image", "()I"⟩
abbrev cX8_back : ByteArray := prog_1_method_27_code
def yX8_back : MethodName := ⟨RX8, "back", "()I"⟩
abbrev cX8_count : ByteArray := prog_1_method_28_code
def yX8_count : MethodName := ⟨RX8, "count", "(I)I"⟩
abbrev cX8_sheet : ByteArray := prog_1_method_29_code
def yX8_sheet : MethodName := ⟨RX8, "sheet", "(III)I"⟩
abbrev cX8_cell : ByteArray := prog_1_method_30_code
def yX8_cell : MethodName := ⟨RX8, "cell", "(III)I"⟩
abbrev cX8_copy : ByteArray := prog_1_method_31_code
def yX8_copy : MethodName := ⟨RX8, "copy", "(IIIII)I"⟩
abbrev cX8_people : ByteArray := prog_1_method_32_code
def yX8_people : MethodName := ⟨RX8, "people", "(IIII)I"⟩
abbrev cX8_taken : ByteArray := prog_1_method_33_code
def yX8_taken : MethodName := ⟨RX8, "taken", "(II)I"⟩
abbrev cX8_isBelow : ByteArray := prog_1_method_34_code
def yX8_isBelow : MethodName := ⟨RX8, "isBelow", "(II)Z"⟩
abbrev cX8_isHouse : ByteArray := prog_1_method_35_code
def yX8_isHouse : MethodName := ⟨RX8, "isHouse", "(I)Z"⟩
abbrev cX8_put : ByteArray := prog_1_method_36_code
def yX8_put : MethodName := ⟨RX8, "put", "([III)I"⟩
abbrev cX8_canTellAll : ByteArray := prog_1_method_37_code
def yX8_canTellAll : MethodName := ⟨RX8, "canTellAll", "(II)Z"⟩
def RX9 : String := "NotTwiceModel"
def TX9 : u_T := fun k => match k with
  | 0 => ("NotTwiceModel", "thrown", "I", false)
  | 1 => ("NotTwiceModel", "texts", "[I", true)
  | 2 => ("NotTwiceModel", "textSize", "[I", true)
  | 3 => ("NotTwiceModel", "textCount", "I", false)
  | 4 => ("NotTwiceModel", "rule", "I", false)
  | 5 => ("NotTwiceModel", "tape", "[I", true)
  | 6 => ("NotTwiceModel", "taped", "I", false)
  | 7 => ("NotTwiceModel", "kinds", "[I", true)
  | 8 => ("NotTwiceModel", "worths", "[I", true)
  | 9 => ("NotTwiceModel", "numbers", "[I", true)
  | 10 => ("NotTwiceModel", "twins", "[I", true)
  | 11 => ("NotTwiceModel", "storyMany", "I", false)
  | 12 => ("NotTwiceModel", "ages", "[I", true)
  | 13 => ("NotTwiceModel", "tells", "[I", true)
  | 14 => ("NotTwiceModel", "heard", "[I", true)
  | 15 => ("NotTwiceModel", "houses", "[I", true)
  | 16 => ("NotTwiceModel", "since", "[I", true)
  | 17 => ("NotTwiceModel", "many", "I", false)
  | 18 => ("NotTwiceModel", "night", "I", false)
  | 19 => ("NotTwiceModel", "ofAge", "I", false)
  | 20 => ("NotTwiceModel", "ofWorth", "I", false)
  | 21 => ("NotTwiceModel", "ofHeard", "I", false)
  | 22 => ("NotTwiceModel", "ofMany", "I", false)
  | 23 => ("NotTwiceModel", "ofNight", "I", false)
  | 24 => ("NotTwiceModel", "ofOwn", "I", false)
  | 25 => ("NotTwiceModel", "from", "I", false)
  | 26 => ("NotTwiceModel", "size", "I", false)
  | 27 => ("NotTwiceModel", "here", "I", false)
  | 28 => ("NotTwiceModel", "token", "I", false)
  | 29 => ("NotTwiceModel", "tokenAt", "I", false)
  | 30 => ("NotTwiceModel", "tokenWorth", "J", false)
  | 31 => ("NotTwiceModel", "open", "I", false)
  | 32 => ("NotTwiceModel", "bad", "Z", false)
  | 33 => ("NotTwiceModel", "fault", "I", false)
  | 34 => ("NotTwiceModel", "bestWorth", "I", false)
  | 35 => ("NotTwiceModel", "heardWas", "[I", true)
  | 36 => ("NotTwiceModel", "housesWas", "[I", true)
  | 37 => ("NotTwiceModel", "sinceWas", "[I", true)
  | 38 => ("NotTwiceModel", "nightWas", "I", false)
  | 39 => ("NotTwiceModel", "knowersOf", "[I", true)
  | 40 => ("NotTwiceModel", "tiredOf", "[I", true)
  | 41 => ("NotTwiceModel", "heardKept", "[I", true)
  | 42 => ("NotTwiceModel", "housesKept", "[I", true)
  | 43 => ("NotTwiceModel", "sinceKept", "[I", true)
  | 44 => ("NotTwiceModel", "manyKept", "I", false)
  | 45 => ("NotTwiceModel", "nightKept", "I", false)
  | 46 => ("NotTwiceModel", "ruleKept", "I", false)
  | 47 => ("NotTwiceModel", "isThere", "[Z", true)
  | 48 => ("NotTwiceModel", "sorts", "[I", true)
  | 49 => ("NotTwiceModel", "sheetSize", "[I", true)
  | _ => ("NotTwiceModel", "items", "[I", true)
def tyX9 : Nat → FieldType := fun k => match k with
  | 0 => .int
  | 1 => .array .int
  | 2 => .array .int
  | 3 => .int
  | 4 => .int
  | 5 => .array .int
  | 6 => .int
  | 7 => .array .int
  | 8 => .array .int
  | 9 => .array .int
  | 10 => .array .int
  | 11 => .int
  | 12 => .array .int
  | 13 => .array .int
  | 14 => .array .int
  | 15 => .array .int
  | 16 => .array .int
  | 17 => .int
  | 18 => .int
  | 19 => .int
  | 20 => .int
  | 21 => .int
  | 22 => .int
  | 23 => .int
  | 24 => .int
  | 25 => .int
  | 26 => .int
  | 27 => .int
  | 28 => .int
  | 29 => .int
  | 30 => .long
  | 31 => .int
  | 32 => .boolean
  | 33 => .int
  | 34 => .int
  | 35 => .array .int
  | 36 => .array .int
  | 37 => .array .int
  | 38 => .int
  | 39 => .array .int
  | 40 => .array .int
  | 41 => .array .int
  | 42 => .array .int
  | 43 => .array .int
  | 44 => .int
  | 45 => .int
  | 46 => .int
  | 47 => .array .boolean
  | 48 => .array .int
  | 49 => .array .int
  | _ => .array .int
abbrev wsX90 : List Cond := u_ws RX9 TX9 51
theorem nmX9 : ∀ a, a < 51 → ∀ b, b < 51 → a ≠ b → (TX9 a).2.1 ≠ (TX9 b).2.1 := by decide +kernel
theorem tyX9_ok : ∀ k, k < 51 → parseFieldDescriptor (TX9 k).2.2.1 = some (tyX9 k) := by decide +kernel
abbrev cX9_in : ByteArray := prog_11_method_2_code
def yX9_in : MethodName := ⟨RX9, "in", "(JJJ)Z"⟩
abbrev cX9_within : ByteArray := prog_11_method_3_code
def yX9_within : MethodName := ⟨RX9, "within", "(III)I"⟩
abbrev cX9_bitsOf : ByteArray := prog_11_method_4_code
def yX9_bitsOf : MethodName := ⟨RX9, "bitsOf", "(I)I"⟩
abbrev cX9_init : ByteArray := prog_11_method_5_code
def yX9_init : MethodName := ⟨RX9, "<init>", "()V"⟩
abbrev cX9_spell : ByteArray := prog_11_method_6_code
def yX9_spell : MethodName := ⟨RX9, "spell", "(IIIIIIIII)V"⟩
abbrev cX9_isStory : ByteArray := prog_11_method_7_code
def yX9_isStory : MethodName := ⟨RX9, "isStory", "(I)Z"⟩
abbrev cX9_isPerson : ByteArray := prog_11_method_8_code
def yX9_isPerson : MethodName := ⟨RX9, "isPerson", "(I)Z"⟩
abbrev cX9_isHouse : ByteArray := prog_11_method_9_code
def yX9_isHouse : MethodName := ⟨RX9, "isHouse", "(I)Z"⟩
abbrev cX9_story : ByteArray := prog_11_method_10_code
def yX9_story : MethodName := ⟨RX9, "story", "(III)I"⟩
abbrev cX9_parts : ByteArray := prog_11_method_11_code
def yX9_parts : MethodName := ⟨RX9, "parts", "(I)V"⟩
abbrev cX9_twin : ByteArray := prog_11_method_12_code
def yX9_twin : MethodName := ⟨RX9, "twin", "(II)I"⟩
abbrev cX9_person : ByteArray := prog_11_method_13_code
def yX9_person : MethodName := ⟨RX9, "person", "(II)I"⟩
abbrev cX9_set : ByteArray := prog_11_method_14_code
def yX9_set : MethodName := ⟨RX9, "set", "(III)I"⟩
abbrev cX9_hears : ByteArray := prog_11_method_15_code
def yX9_hears : MethodName := ⟨RX9, "hears", "(III)I"⟩
abbrev cX9_counts : ByteArray := prog_11_method_16_code
def yX9_counts : MethodName := ⟨RX9, "counts", "(II)I"⟩
abbrev cX9_stays : ByteArray := prog_11_method_17_code
def yX9_stays : MethodName := ⟨RX9, "stays", "(I)I"⟩
abbrev cX9_told : ByteArray := prog_11_method_18_code
def yX9_told : MethodName := ⟨RX9, "told", "(III)I"⟩
abbrev cX9_known : ByteArray := prog_11_method_19_code
def yX9_known : MethodName := ⟨RX9, "known", "(I)I"⟩
abbrev cX9_one : ByteArray := prog_11_method_20_code
def yX9_one : MethodName := ⟨RX9, "one", "(II)I"⟩
abbrev cX9_feed : ByteArray := prog_11_method_21_code
def yX9_feed : MethodName := ⟨RX9, "feed", "(I)I"⟩
abbrev cX9_byteAt : ByteArray := prog_11_method_22_code
def yX9_byteAt : MethodName := ⟨RX9, "byteAt", "(I)I"⟩
abbrev cX9_next : ByteArray := prog_11_method_23_code
def yX9_next : MethodName := ⟨RX9, "next", "()V"⟩
abbrev cX9_fail : ByteArray := prog_11_method_24_code
def yX9_fail : MethodName := ⟨RX9, "fail", "()V"⟩
abbrev cX9_isLetter : ByteArray := prog_11_method_25_code
def yX9_isLetter : MethodName := ⟨RX9, "isLetter", "(II)Z"⟩
abbrev cX9_isWord : ByteArray := prog_11_method_26_code
def yX9_isWord : MethodName := ⟨RX9, "isWord", "(IIIIIIII)Z"⟩
abbrev cX9_isSign : ByteArray := prog_11_method_27_code
def yX9_isSign : MethodName := ⟨RX9, "isSign", "(I)Z"⟩
abbrev cX9_opens : ByteArray := prog_11_method_28_code
def yX9_opens : MethodName := ⟨RX9, "opens", "()Z"⟩
abbrev cX9_name : ByteArray := prog_11_method_29_code
def yX9_name : MethodName := ⟨RX9, "name", "()I"⟩
abbrev cX9_atom : ByteArray := prog_11_method_30_code
def yX9_atom : MethodName := ⟨RX9, "atom", "()I"⟩
abbrev cX9_term : ByteArray := prog_11_method_31_code
def yX9_term : MethodName := ⟨RX9, "term", "()I"⟩
abbrev cX9_added : ByteArray := prog_11_method_32_code
def yX9_added : MethodName := ⟨RX9, "added", "()I"⟩
abbrev cX9_not : ByteArray := prog_11_method_33_code
def yX9_not : MethodName := ⟨RX9, "not", "()I"⟩
abbrev cX9_both : ByteArray := prog_11_method_34_code
def yX9_both : MethodName := ⟨RX9, "both", "()I"⟩
abbrev cX9_either : ByteArray := prog_11_method_35_code
def yX9_either : MethodName := ⟨RX9, "either", "()I"⟩
abbrev cX9_part : ByteArray := prog_11_method_36_code
def yX9_part : MethodName := ⟨RX9, "part", "(Z)I"⟩
abbrev cX9_read : ByteArray := prog_11_method_37_code
def yX9_read : MethodName := ⟨RX9, "read", "(II)I"⟩
abbrev cX9_text : ByteArray := prog_11_method_38_code
def yX9_text : MethodName := ⟨RX9, "text", "()I"⟩
abbrev cX9_force : ByteArray := prog_11_method_39_code
def yX9_force : MethodName := ⟨RX9, "force", "(I)I"⟩
abbrev cX9_says : ByteArray := prog_11_method_40_code
def yX9_says : MethodName := ⟨RX9, "says", "(IIII)I"⟩
abbrev cX9_sitting : ByteArray := prog_11_method_41_code
def yX9_sitting : MethodName := ⟨RX9, "sitting", "(I)I"⟩
abbrev cX9_knowers : ByteArray := prog_11_method_42_code
def yX9_knowers : MethodName := ⟨RX9, "knowers", "(I)I"⟩
abbrev cX9_mayTell : ByteArray := prog_11_method_43_code
def yX9_mayTell : MethodName := ⟨RX9, "mayTell", "(III)Z"⟩
abbrev cX9_teller : ByteArray := prog_11_method_44_code
def yX9_teller : MethodName := ⟨RX9, "teller", "(II)I"⟩
abbrev cX9_allMay : ByteArray := prog_11_method_45_code
def yX9_allMay : MethodName := ⟨RX9, "allMay", "(I)I"⟩
abbrev cX9_may : ByteArray := prog_11_method_46_code
def yX9_may : MethodName := ⟨RX9, "may", "(I)I"⟩
abbrev cX9_by : ByteArray := prog_11_method_47_code
def yX9_by : MethodName := ⟨RX9, "by", "(II)I"⟩
abbrev cX9_worthBy : ByteArray := prog_11_method_48_code
def yX9_worthBy : MethodName := ⟨RX9, "worthBy", "(III)I"⟩
abbrev cX9_worth : ByteArray := prog_11_method_49_code
def yX9_worth : MethodName := ⟨RX9, "worth", "(II)J"⟩
abbrev cX9_best : ByteArray := prog_11_method_50_code
def yX9_best : MethodName := ⟨RX9, "best", "(I)I"⟩
abbrev cX9_most : ByteArray := prog_11_method_51_code
def yX9_most : MethodName := ⟨RX9, "most", "(II)J"⟩
abbrev cX9_tellIn : ByteArray := prog_11_method_52_code
def yX9_tellIn : MethodName := ⟨RX9, "tellIn", "(III)I"⟩
abbrev cX9_tell : ByteArray := prog_11_method_53_code
def yX9_tell : MethodName := ⟨RX9, "tell", "(II)I"⟩
abbrev cX9_pass : ByteArray := prog_11_method_54_code
def yX9_pass : MethodName := ⟨RX9, "pass", "()I"⟩
abbrev cX9_laysAside : ByteArray := prog_11_method_55_code
def yX9_laysAside : MethodName := ⟨RX9, "laysAside", "()V"⟩
abbrev cX9_laysBack : ByteArray := prog_11_method_56_code
def yX9_laysBack : MethodName := ⟨RX9, "laysBack", "()V"⟩
abbrev cX9_canAll : ByteArray := prog_11_method_57_code
def yX9_canAll : MethodName := ⟨RX9, "canAll", "(II)Z"⟩
abbrev cX9_goesOn : ByteArray := prog_11_method_58_code
def yX9_goesOn : MethodName := ⟨RX9, "goesOn", "(II)I"⟩
abbrev cX9_isTired : ByteArray := prog_11_method_59_code
def yX9_isTired : MethodName := ⟨RX9, "isTired", "(III)Z"⟩
abbrev cX9_anyMay : ByteArray := prog_11_method_60_code
def yX9_anyMay : MethodName := ⟨RX9, "anyMay", "(I)Z"⟩
abbrev cX9_digit : ByteArray := prog_11_method_61_code
def yX9_digit : MethodName := ⟨RX9, "digit", "(III)I"⟩
abbrev cX9_housesWith : ByteArray := prog_11_method_62_code
def yX9_housesWith : MethodName := ⟨RX9, "housesWith", "(II)I"⟩
abbrev cX9_spread : ByteArray := prog_11_method_63_code
def yX9_spread : MethodName := ⟨RX9, "spread", "(II)I"⟩
abbrev cX9_keepAway : ByteArray := prog_11_method_64_code
def yX9_keepAway : MethodName := ⟨RX9, "keepAway", "(I)I"⟩
abbrev cX9_send : ByteArray := prog_11_method_65_code
def yX9_send : MethodName := ⟨RX9, "send", "(II)I"⟩
abbrev cX9_stranger : ByteArray := prog_11_method_66_code
def yX9_stranger : MethodName := ⟨RX9, "stranger", "(III)I"⟩
abbrev cX9_left : ByteArray := prog_11_method_67_code
def yX9_left : MethodName := ⟨RX9, "left", "()I"⟩
abbrev cX9_judge : ByteArray := prog_11_method_68_code
def yX9_judge : MethodName := ⟨RX9, "judge", "(I)I"⟩
abbrev cX9_drawn : ByteArray := prog_11_method_69_code
def yX9_drawn : MethodName := ⟨RX9, "drawn", "(II)I"⟩
abbrev cX9_image : ByteArray := prog_11_method_70_code
def yX9_image : MethodName := ⟨RX9, "image", "()I"⟩
abbrev cX9_back : ByteArray := prog_11_method_71_code
def yX9_back : MethodName := ⟨RX9, "back", "()I"⟩
abbrev cX9_count : ByteArray := prog_11_method_72_code
def yX9_count : MethodName := ⟨RX9, "count", "(I)I"⟩
abbrev cX9_isSheet : ByteArray := prog_11_method_73_code
def yX9_isSheet : MethodName := ⟨RX9, "isSheet", "(I)Z"⟩
abbrev cX9_sheet : ByteArray := prog_11_method_74_code
def yX9_sheet : MethodName := ⟨RX9, "sheet", "(III)I"⟩
abbrev cX9_cell : ByteArray := prog_11_method_75_code
def yX9_cell : MethodName := ⟨RX9, "cell", "(III)I"⟩
abbrev cX9_copy : ByteArray := prog_11_method_76_code
def yX9_copy : MethodName := ⟨RX9, "copy", "(IIIII)I"⟩
abbrev cX9_people : ByteArray := prog_11_method_77_code
def yX9_people : MethodName := ⟨RX9, "people", "(IIII)I"⟩
abbrev cX9_over : ByteArray := prog_11_method_78_code
def yX9_over : MethodName := ⟨RX9, "over", "(I)I"⟩
abbrev cX9_taken : ByteArray := prog_11_method_79_code
def yX9_taken : MethodName := ⟨RX9, "taken", "(II)I"⟩
def RJ11 : String := "java/lang/Character"
def TJ11 : u_T := fun k => match k with
  | _ => ("", "", "", false)
def tyJ11 : Nat → FieldType := fun k => match k with
  | _ => .int
abbrev wsJ110 : List Cond := u_ws RJ11 TJ11 0
theorem nmJ11 : ∀ a, a < 0 → ∀ b, b < 0 → a ≠ b → (TJ11 a).2.1 ≠ (TJ11 b).2.1 := by decide +kernel
theorem tyJ11_ok : ∀ k, k < 0 → parseFieldDescriptor (TJ11 k).2.2.1 = some (tyJ11 k) := by decide +kernel
abbrev cJ11_isValidCodePoint_9a6ad : ByteArray := prog_12_method_11_code
def yJ11_isValidCodePoint_9a6ad : MethodName := ⟨RJ11, "isValidCodePoint", "(I)Z"⟩
abbrev cJ11_highSurrogate_5068e : ByteArray := prog_12_method_28_code
def yJ11_highSurrogate_5068e : MethodName := ⟨RJ11, "highSurrogate", "(I)C"⟩
abbrev cJ11_lowSurrogate_5068e : ByteArray := prog_12_method_29_code
def yJ11_lowSurrogate_5068e : MethodName := ⟨RJ11, "lowSurrogate", "(I)C"⟩
def RJ6 : String := "java/lang/Integer"
def TJ6 : u_T := fun k => match k with
  | _ => ("", "", "", false)
def tyJ6 : Nat → FieldType := fun k => match k with
  | _ => .int
abbrev wsJ60 : List Cond := u_ws RJ6 TJ6 0
theorem nmJ6 : ∀ a, a < 0 → ∀ b, b < 0 → a ≠ b → (TJ6 a).2.1 ≠ (TJ6 b).2.1 := by decide +kernel
theorem tyJ6_ok : ∀ k, k < 0 → parseFieldDescriptor (TJ6 k).2.2.1 = some (tyJ6 k) := by decide +kernel
abbrev cJ6_bitCount_0f7a4 : ByteArray := prog_13_method_49_code
def yJ6_bitCount_0f7a4 : MethodName := ⟨RJ6, "bitCount", "(I)I"⟩
def RJ9 : String := "java/lang/Math"
def TJ9 : u_T := fun k => match k with
  | _ => ("", "", "", false)
def tyJ9 : Nat → FieldType := fun k => match k with
  | _ => .int
abbrev wsJ90 : List Cond := u_ws RJ9 TJ9 0
theorem nmJ9 : ∀ a, a < 0 → ∀ b, b < 0 → a ≠ b → (TJ9 a).2.1 ≠ (TJ9 b).2.1 := by decide +kernel
theorem tyJ9_ok : ∀ k, k < 0 → parseFieldDescriptor (TJ9 k).2.2.1 = some (tyJ9 k) := by decide +kernel
abbrev cJ9_max_7cf53 : ByteArray := prog_14_method_65_code
def yJ9_max_7cf53 : MethodName := ⟨RJ9, "max", "(II)I"⟩
abbrev cJ9_min_7cf53 : ByteArray := prog_14_method_69_code
def yJ9_min_7cf53 : MethodName := ⟨RJ9, "min", "(II)I"⟩
def RJ0 : String := "java/lang/String"
def TJ0 : u_T := fun k => match k with
  | _ => ("", "", "", false)
def tyJ0 : Nat → FieldType := fun k => match k with
  | _ => .int
abbrev wsJ00 : List Cond := u_ws RJ0 TJ0 0
theorem nmJ0 : ∀ a, a < 0 → ∀ b, b < 0 → a ≠ b → (TJ0 a).2.1 ≠ (TJ0 b).2.1 := by decide +kernel
theorem tyJ0_ok : ∀ k, k < 0 → parseFieldDescriptor (TJ0 k).2.2.1 = some (tyJ0 k) := by decide +kernel
abbrev cJ0_length_8abf5 : ByteArray := prog_15_method_54_code
def yJ0_length_8abf5 : MethodName := ⟨RJ0, "length", "()I"⟩
abbrev cJ0_charAt_5068e : ByteArray := prog_15_method_56_code
def yJ0_charAt_5068e : MethodName := ⟨RJ0, "charAt", "(I)C"⟩
abbrev cJ0_indexOf_0f7a4 : ByteArray := prog_15_method_79_code
def yJ0_indexOf_0f7a4 : MethodName := ⟨RJ0, "indexOf", "(I)I"⟩
abbrev cJ0_indexOf_7cf53 : ByteArray := prog_15_method_80_code
def yJ0_indexOf_7cf53 : MethodName := ⟨RJ0, "indexOf", "(II)I"⟩
abbrev cJ0_coder_7d493 : ByteArray := prog_15_method_152_code
def yJ0_coder_7d493 : MethodName := ⟨RJ0, "coder", "()B"⟩
abbrev cJ0_isLatin1_aae02 : ByteArray := prog_15_method_154_code
def yJ0_isLatin1_aae02 : MethodName := ⟨RJ0, "isLatin1", "()Z"⟩
abbrev cJ0_checkIndex_df160 : ByteArray := prog_15_method_155_code
def yJ0_checkIndex_df160 : MethodName := ⟨RJ0, "checkIndex", "(II)V"⟩
abbrev cJ0_checkBoundsBeginEnd_23922 : ByteArray := prog_15_method_158_code
def yJ0_checkBoundsBeginEnd_23922 : MethodName := ⟨RJ0, "checkBoundsBeginEnd", "(III)V"⟩
def RJ1 : String := "java/lang/StringLatin1"
def TJ1 : u_T := fun k => match k with
  | _ => ("", "", "", false)
def tyJ1 : Nat → FieldType := fun k => match k with
  | _ => .int
abbrev wsJ10 : List Cond := u_ws RJ1 TJ1 0
theorem nmJ1 : ∀ a, a < 0 → ∀ b, b < 0 → a ≠ b → (TJ1 a).2.1 ≠ (TJ1 b).2.1 := by decide +kernel
theorem tyJ1_ok : ∀ k, k < 0 → parseFieldDescriptor (TJ1 k).2.2.1 = some (tyJ1 k) := by decide +kernel
abbrev cJ1_charAt_3b067 : ByteArray := prog_16_method_2_code
def yJ1_charAt_3b067 : MethodName := ⟨RJ1, "charAt", "([BI)C"⟩
abbrev cJ1_canEncode_9a6ad : ByteArray := prog_16_method_4_code
def yJ1_canEncode_9a6ad : MethodName := ⟨RJ1, "canEncode", "(I)Z"⟩
abbrev cJ1_indexOf_4cfef : ByteArray := prog_16_method_22_code
def yJ1_indexOf_4cfef : MethodName := ⟨RJ1, "indexOf", "([BIII)I"⟩
abbrev cJ1_indexOfChar_4cfef : ByteArray := prog_16_method_23_code
def yJ1_indexOfChar_4cfef : MethodName := ⟨RJ1, "indexOfChar", "([BIII)I"⟩
def RJ2 : String := "java/lang/StringUTF16"
def TJ2 : u_T := fun k => match k with
  | _ => ("", "", "", false)
def tyJ2 : Nat → FieldType := fun k => match k with
  | _ => .int
abbrev wsJ20 : List Cond := u_ws RJ2 TJ2 0
theorem nmJ2 : ∀ a, a < 0 → ∀ b, b < 0 → a ≠ b → (TJ2 a).2.1 ≠ (TJ2 b).2.1 := by decide +kernel
theorem tyJ2_ok : ∀ k, k < 0 → parseFieldDescriptor (TJ2 k).2.2.1 = some (tyJ2 k) := by decide +kernel
abbrev cJ2_getChar_3b067 : ByteArray := prog_17_method_5_code
def yJ2_getChar_3b067 : MethodName := ⟨RJ2, "getChar", "([BI)C"⟩
abbrev cJ2_length_9d52b : ByteArray := prog_17_method_6_code
def yJ2_length_9d52b : MethodName := ⟨RJ2, "length", "([B)I"⟩
abbrev cJ2_indexOf_4cfef : ByteArray := prog_17_method_40_code
def yJ2_indexOf_4cfef : MethodName := ⟨RJ2, "indexOf", "([BIII)I"⟩
abbrev cJ2_indexOfChar_4cfef : ByteArray := prog_17_method_47_code
def yJ2_indexOfChar_4cfef : MethodName := ⟨RJ2, "indexOfChar", "([BIII)I"⟩
abbrev cJ2_indexOfCharUnsafe_4cfef : ByteArray := prog_17_method_48_code
def yJ2_indexOfCharUnsafe_4cfef : MethodName := ⟨RJ2, "indexOfCharUnsafe", "([BIII)I"⟩
abbrev cJ2_indexOfSupplementary_4cfef : ByteArray := prog_17_method_49_code
def yJ2_indexOfSupplementary_4cfef : MethodName := ⟨RJ2, "indexOfSupplementary", "([BIII)I"⟩
abbrev cJ2_charAt_3b067 : ByteArray := prog_17_method_83_code
def yJ2_charAt_3b067 : MethodName := ⟨RJ2, "charAt", "([BI)C"⟩
abbrev cJ2_checkIndex_2214a : ByteArray := prog_17_method_91_code
def yJ2_checkIndex_2214a : MethodName := ⟨RJ2, "checkIndex", "(I[B)V"⟩
abbrev cJ2_checkBoundsBeginEnd_d044e : ByteArray := prog_17_method_93_code
def yJ2_checkBoundsBeginEnd_d044e : MethodName := ⟨RJ2, "checkBoundsBeginEnd", "(II[B)V"⟩
def RJ10 : String := "java/lang/System"
def TJ10 : u_T := fun k => match k with
  | _ => ("", "", "", false)
def tyJ10 : Nat → FieldType := fun k => match k with
  | _ => .int
abbrev wsJ100 : List Cond := u_ws RJ10 TJ10 0
theorem nmJ10 : ∀ a, a < 0 → ∀ b, b < 0 → a ≠ b → (TJ10 a).2.1 ≠ (TJ10 b).2.1 := by decide +kernel
theorem tyJ10_ok : ∀ k, k < 0 → parseFieldDescriptor (TJ10 k).2.2.1 = some (tyJ10 k) := by decide +kernel
def RJ3 : String := "jdk/internal/util/Preconditions"
def TJ3 : u_T := fun k => match k with
  | _ => ("", "", "", false)
def tyJ3 : Nat → FieldType := fun k => match k with
  | _ => .int
abbrev wsJ30 : List Cond := u_ws RJ3 TJ3 0
theorem nmJ3 : ∀ a, a < 0 → ∀ b, b < 0 → a ≠ b → (TJ3 a).2.1 ≠ (TJ3 b).2.1 := by decide +kernel
theorem tyJ3_ok : ∀ k, k < 0 → parseFieldDescriptor (TJ3 k).2.2.1 = some (tyJ3 k) := by decide +kernel
abbrev cJ3_checkIndex_8e157 : ByteArray := prog_19_method_11_code
def yJ3_checkIndex_8e157 : MethodName := ⟨RJ3, "checkIndex", "(IILjava/util/function/BiFunction;)I"⟩
abbrev cJ3_checkFromToIndex_8c36e : ByteArray := prog_19_method_12_code
def yJ3_checkFromToIndex_8c36e : MethodName := ⟨RJ3, "checkFromToIndex", "(IIILjava/util/function/BiFunction;)I"⟩
def RL : String := "NotTwiceLaw"
abbrev cL_law : ByteArray := code
def yL_law : MethodName := ⟨RL, "law", "([I)Z"⟩
abbrev vwCl : List vw_C := [(RX0, TX0, 14), (RX1, TX1, 9), (RX2, TX2, 3), (RX3, TX3, 9), (RX4, TX4, 3), (RX5, TX5, 5), (RX7, TX7, 4), (RX8, TX8, 9), (RX9, TX9, 51)]
end
section
/-- the tables' words that a call hands on -/
def nt_tbl : List Cond := lw_tbl.filter goodWord
theorem nt_good (w : Cond) (h : w ∈ nt_tbl) : goodWord w = true := (List.mem_filter.mp h).2
theorem nt_tbl_in (w : Cond) (h : w ∈ nt_tbl) : w ∈ lw_tbl := (List.mem_filter.mp h).1
theorem nt_t0 {w : Cond} (i : Nat) (h : (k2_sels lw_privs)[i]? = some w) (hg : goodWord w = true) : w ∈ nt_tbl := List.mem_filter.mpr ⟨List.mem_append_left _ (List.mem_of_getElem? h), hg⟩
theorem nt_t1 {w : Cond} (i : Nat) (h : tables_1_1[i]? = some w) (hg : goodWord w = true) : w ∈ nt_tbl := List.mem_filter.mpr ⟨List.mem_append_right _ (List.mem_append_left _ (List.mem_of_getElem? h)), hg⟩
theorem nt_t2 {w : Cond} (i : Nat) (h : tables_1_2[i]? = some w) (hg : goodWord w = true) : w ∈ nt_tbl := List.mem_filter.mpr ⟨List.mem_append_right _ (List.mem_append_right _ (List.mem_append_left _ (List.mem_of_getElem? h))), hg⟩
theorem nt_t3 {w : Cond} (i : Nat) (h : tables_1_3[i]? = some w) (hg : goodWord w = true) : w ∈ nt_tbl := List.mem_filter.mpr ⟨List.mem_append_right _ (List.mem_append_right _ (List.mem_append_right _ (List.mem_append_left _ (List.mem_of_getElem? h)))), hg⟩
theorem nt_t4 {w : Cond} (i : Nat) (h : tables_1_4[i]? = some w) (hg : goodWord w = true) : w ∈ nt_tbl := List.mem_filter.mpr ⟨List.mem_append_right _ (List.mem_append_right _ (List.mem_append_right _ (List.mem_append_right _ (List.mem_append_left _ (List.mem_of_getElem? h))))), hg⟩
theorem nt_t5 {w : Cond} (i : Nat) (h : tables_1_5[i]? = some w) (hg : goodWord w = true) : w ∈ nt_tbl := List.mem_filter.mpr ⟨List.mem_append_right _ (List.mem_append_right _ (List.mem_append_right _ (List.mem_append_right _ (List.mem_append_right _ (List.mem_append_left _ (List.mem_of_getElem? h)))))), hg⟩
theorem nt_t6 {w : Cond} (i : Nat) (h : tables_1_6[i]? = some w) (hg : goodWord w = true) : w ∈ nt_tbl := List.mem_filter.mpr ⟨List.mem_append_right _ (List.mem_append_right _ (List.mem_append_right _ (List.mem_append_right _ (List.mem_append_right _ (List.mem_append_right _ (List.mem_of_getElem? h)))))), hg⟩
theorem wd_0 : Cond.initialized RL ∈ nt_tbl := nt_t1 0 rfl rfl
theorem wd_1 : Cond.initialized RX8 ∈ nt_tbl := nt_t1 1 rfl rfl
theorem wd_2 : Cond.initialized RX5 ∈ nt_tbl := nt_t1 2 rfl rfl
theorem wd_3 : Cond.initialized RX7 ∈ nt_tbl := nt_t1 3 rfl rfl
theorem wd_4 : Cond.initialized RX1 ∈ nt_tbl := nt_t1 4 rfl rfl
theorem wd_5 : Cond.initialized RJ0 ∈ nt_tbl := nt_t1 5 rfl rfl
theorem wd_6 : Cond.initialized RJ1 ∈ nt_tbl := nt_t1 6 rfl rfl
theorem wd_7 : Cond.initialized RJ3 ∈ nt_tbl := nt_t1 7 rfl rfl
theorem wd_8 : Cond.initialized RJ2 ∈ nt_tbl := nt_t1 8 rfl rfl
theorem wd_9 : Cond.initialized RJ9 ∈ nt_tbl := nt_t1 9 rfl rfl
theorem wd_10 : Cond.initialized RJ11 ∈ nt_tbl := nt_t1 10 rfl rfl
theorem wd_11 : Cond.initialized RX2 ∈ nt_tbl := nt_t1 11 rfl rfl
theorem wd_12 : Cond.initialized RJ10 ∈ nt_tbl := nt_t1 12 rfl rfl
theorem wd_13 : Cond.initialized RX0 ∈ nt_tbl := nt_t1 13 rfl rfl
theorem wd_14 : Cond.initialized RX3 ∈ nt_tbl := nt_t1 14 rfl rfl
theorem wd_15 : Cond.initialized RX4 ∈ nt_tbl := nt_t1 15 rfl rfl
theorem wd_16 : Cond.initialized RX9 ∈ nt_tbl := nt_t1 16 rfl rfl
theorem wd_17 : Cond.initialized RJ6 ∈ nt_tbl := nt_t1 17 rfl rfl
theorem wd_18 : Cond.classLink RL 7 "NotTwice" ∈ nt_tbl := nt_t1 18 rfl rfl
theorem wd_19 : Cond.instantiable RX8 9 ∈ nt_tbl := nt_t1 19 rfl rfl
theorem wd_20 : Cond.methodLink RL 9 yX8_init ∈ nt_tbl := nt_t1 20 rfl rfl
theorem wd_21 : Cond.instanceMethod yX8_init ∈ nt_tbl := nt_t1 21 rfl rfl
theorem wd_22 : Cond.code yX8_init prog_1_method_1_code 1 (Option.none : Option Jvm.ClassFile.FieldType) ∈ nt_tbl := nt_t1 22 rfl rfl
theorem wd_23 : Cond.methodLink RX8 3 objectInit ∈ nt_tbl := nt_t1 23 rfl rfl
theorem wd_24 : Cond.instanceMethod objectInit ∈ nt_tbl := nt_t1 24 rfl rfl
theorem wd_25 : Cond.code objectInit object_method_1_code 1 (Option.none : Option Jvm.ClassFile.FieldType) ∈ nt_tbl := nt_t1 25 rfl rfl
theorem wd_26 : Cond.classLink RX8 9 "NotTwice$Shelf" ∈ nt_tbl := nt_t1 26 rfl rfl
theorem wd_27 : Cond.instantiable RX5 5 ∈ nt_tbl := nt_t1 27 rfl rfl
theorem wd_28 : Cond.instanceMethod yX5_init ∈ nt_tbl := nt_t1 29 rfl rfl
theorem wd_29 : Cond.code yX5_init prog_7_method_1_code 1 (Option.none : Option Jvm.ClassFile.FieldType) ∈ nt_tbl := nt_t1 30 rfl rfl
theorem wd_30 : Cond.methodLink RX5 3 objectInit ∈ nt_tbl := nt_t1 31 rfl rfl
theorem wd_31 : Cond.fieldLink RX5 9 "NotTwice$Shelf" "kind" "[I" ∈ nt_tbl := nt_t1 32 rfl rfl
theorem wd_32 : Cond.fieldLink RX5 15 "NotTwice$Shelf" "worth" "[I" ∈ nt_tbl := nt_t1 34 rfl rfl
theorem wd_33 : Cond.fieldLink RX5 18 "NotTwice$Shelf" "number" "[I" ∈ nt_tbl := nt_t1 36 rfl rfl
theorem wd_34 : Cond.fieldLink RX5 21 "NotTwice$Shelf" "twin" "[I" ∈ nt_tbl := nt_t1 38 rfl rfl
theorem wd_35 : Cond.fieldLink RX5 24 "NotTwice$Shelf" "size" "I" ∈ nt_tbl := nt_t1 40 rfl rfl
theorem wd_36 : Cond.laysFinal "NotTwice$Shelf" "NotTwice$Shelf" "kind" "[I" ∈ nt_tbl := nt_t1 44 rfl rfl
theorem wd_37 : Cond.laysFinal "NotTwice$Shelf" "NotTwice$Shelf" "worth" "[I" ∈ nt_tbl := nt_t1 46 rfl rfl
theorem wd_38 : Cond.laysFinal "NotTwice$Shelf" "NotTwice$Shelf" "number" "[I" ∈ nt_tbl := nt_t1 48 rfl rfl
theorem wd_39 : Cond.laysFinal "NotTwice$Shelf" "NotTwice$Shelf" "twin" "[I" ∈ nt_tbl := nt_t1 50 rfl rfl
theorem wd_40 : Cond.lays "NotTwice$Shelf" "NotTwice$Shelf" "size" "I" ∈ nt_tbl := nt_t1 52 rfl rfl
theorem wd_41 : Cond.arrayClass Jvm.ClassFile.FieldType.int ∈ nt_tbl := nt_t1 55 rfl rfl
theorem wd_42 : Cond.classLink RX8 16 "NotTwice$Texts" ∈ nt_tbl := nt_t1 56 rfl rfl
theorem wd_43 : Cond.instantiable RX7 4 ∈ nt_tbl := nt_t1 57 rfl rfl
theorem wd_44 : Cond.instanceMethod yX7_init ∈ nt_tbl := nt_t1 59 rfl rfl
theorem wd_45 : Cond.code yX7_init prog_9_method_1_code 1 (Option.none : Option Jvm.ClassFile.FieldType) ∈ nt_tbl := nt_t1 60 rfl rfl
theorem wd_46 : Cond.methodLink RX7 3 objectInit ∈ nt_tbl := nt_t1 61 rfl rfl
theorem wd_47 : Cond.classLink RX7 9 "NotTwice$Rule" ∈ nt_tbl := nt_t1 62 rfl rfl
theorem wd_48 : Cond.fieldLink RX7 11 "NotTwice$Texts" "rules" "[LNotTwice$Rule;" ∈ nt_tbl := nt_t1 64 rfl rfl
theorem wd_49 : Cond.fieldLink RX7 19 "NotTwice$Texts" "names" "[I" ∈ nt_tbl := nt_t1 65 rfl rfl
theorem wd_50 : Cond.fieldLink RX7 23 "NotTwice$Texts" "stack" "[I" ∈ nt_tbl := nt_t1 67 rfl rfl
theorem wd_51 : Cond.fieldLink RX7 26 "NotTwice$Texts" "size" "I" ∈ nt_tbl := nt_t1 69 rfl rfl
theorem wd_52 : Cond.laysFinal "NotTwice$Texts" "NotTwice$Texts" "rules" "[LNotTwice$Rule;" ∈ nt_tbl := nt_t1 71 rfl rfl
theorem wd_53 : Cond.laysFinal "NotTwice$Texts" "NotTwice$Texts" "names" "[I" ∈ nt_tbl := nt_t1 73 rfl rfl
theorem wd_54 : Cond.laysFinal "NotTwice$Texts" "NotTwice$Texts" "stack" "[I" ∈ nt_tbl := nt_t1 75 rfl rfl
theorem wd_55 : Cond.lays "NotTwice$Texts" "NotTwice$Texts" "size" "I" ∈ nt_tbl := nt_t1 77 rfl rfl
theorem wd_56 : Cond.classLink RX8 23 "NotTwice$Reader" ∈ nt_tbl := nt_t1 80 rfl rfl
theorem wd_57 : Cond.instantiable RX1 9 ∈ nt_tbl := nt_t1 81 rfl rfl
theorem wd_58 : Cond.instanceMethod yX1_init ∈ nt_tbl := nt_t1 83 rfl rfl
theorem wd_59 : Cond.code yX1_init prog_3_method_1_code 1 (Option.none : Option Jvm.ClassFile.FieldType) ∈ nt_tbl := nt_t1 84 rfl rfl
theorem wd_60 : Cond.methodLink RX1 3 objectInit ∈ nt_tbl := nt_t1 85 rfl rfl
theorem wd_61 : Cond.fieldLink RX1 9 "NotTwice$Reader" "tape" "[I" ∈ nt_tbl := nt_t1 86 rfl rfl
theorem wd_62 : Cond.fieldLink RX1 21 "NotTwice$Reader" "size" "I" ∈ nt_tbl := nt_t1 87 rfl rfl
theorem wd_63 : Cond.fieldLink RX1 52 "NotTwice$Reader" "at" "I" ∈ nt_tbl := nt_t1 89 rfl rfl
theorem wd_64 : Cond.fieldLink RX1 70 "NotTwice$Reader" "token" "I" ∈ nt_tbl := nt_t1 90 rfl rfl
theorem wd_65 : Cond.fieldLink RX1 41 "NotTwice$Reader" "tokenAt" "I" ∈ nt_tbl := nt_t1 91 rfl rfl
theorem wd_66 : Cond.fieldLink RX1 55 "NotTwice$Reader" "open" "I" ∈ nt_tbl := nt_t1 92 rfl rfl
theorem wd_67 : Cond.fieldLink RX1 15 "NotTwice$Reader" "code" "[I" ∈ nt_tbl := nt_t1 93 rfl rfl
theorem wd_68 : Cond.fieldLink RX1 46 "NotTwice$Reader" "codeSize" "I" ∈ nt_tbl := nt_t1 94 rfl rfl
theorem wd_69 : Cond.fieldLink RX1 18 "NotTwice$Reader" "partAt" "[I" ∈ nt_tbl := nt_t1 95 rfl rfl
theorem wd_70 : Cond.laysFinal "NotTwice$Reader" "NotTwice$Reader" "tape" "[I" ∈ nt_tbl := nt_t1 96 rfl rfl
theorem wd_71 : Cond.lays "NotTwice$Reader" "NotTwice$Reader" "size" "I" ∈ nt_tbl := nt_t1 98 rfl rfl
theorem wd_72 : Cond.lays "NotTwice$Reader" "NotTwice$Reader" "at" "I" ∈ nt_tbl := nt_t1 100 rfl rfl
theorem wd_73 : Cond.lays "NotTwice$Reader" "NotTwice$Reader" "token" "I" ∈ nt_tbl := nt_t1 102 rfl rfl
theorem wd_74 : Cond.lays "NotTwice$Reader" "NotTwice$Reader" "tokenAt" "I" ∈ nt_tbl := nt_t1 104 rfl rfl
theorem wd_75 : Cond.lays "NotTwice$Reader" "NotTwice$Reader" "open" "I" ∈ nt_tbl := nt_t1 106 rfl rfl
theorem wd_76 : Cond.laysFinal "NotTwice$Reader" "NotTwice$Reader" "code" "[I" ∈ nt_tbl := nt_t1 108 rfl rfl
theorem wd_77 : Cond.lays "NotTwice$Reader" "NotTwice$Reader" "codeSize" "I" ∈ nt_tbl := nt_t1 110 rfl rfl
theorem wd_78 : Cond.laysFinal "NotTwice$Reader" "NotTwice$Reader" "partAt" "[I" ∈ nt_tbl := nt_t1 112 rfl rfl
theorem wd_79 : Cond.instanceMethod yX1_putFirstText ∈ nt_tbl := nt_t1 117 rfl rfl
theorem wd_80 : Cond.code yX1_putFirstText prog_3_method_3_code 2 (Option.none : Option Jvm.ClassFile.FieldType) ∈ nt_tbl := nt_t1 118 rfl rfl
theorem wd_81 : Cond.methodLink RX1 27 yJ0_length_8abf5 ∈ nt_tbl := nt_t1 120 rfl rfl
theorem wd_82 : Cond.instanceMethod yJ0_length_8abf5 ∈ nt_tbl := nt_t1 121 rfl rfl
theorem wd_83 : Cond.selects RJ0 yJ0_length_8abf5 yJ0_length_8abf5 ∈ nt_tbl := nt_t1 122 rfl rfl
theorem wd_84 : Cond.code yJ0_length_8abf5 prog_15_method_54_code 1 (Option.some Jvm.ClassFile.FieldType.int) ∈ nt_tbl := nt_t1 123 rfl rfl
theorem wd_85 : Cond.methodLink RJ0 335 yJ0_coder_7d493 ∈ nt_tbl := nt_t1 124 rfl rfl
theorem wd_86 : Cond.instanceMethod yJ0_coder_7d493 ∈ nt_tbl := nt_t1 125 rfl rfl
theorem wd_87 : Cond.selects RJ0 yJ0_coder_7d493 yJ0_coder_7d493 ∈ nt_tbl := nt_t1 126 rfl rfl
theorem wd_88 : Cond.code yJ0_coder_7d493 prog_15_method_152_code 1 (Option.some Jvm.ClassFile.FieldType.byte) ∈ nt_tbl := nt_t1 127 rfl rfl
theorem wd_89 : Cond.fieldLink RJ0 38 "java/lang/String" "COMPACT_STRINGS" "Z" ∈ nt_tbl := nt_t1 128 rfl rfl
theorem wd_90 : Cond.methodLink RX1 33 yJ0_charAt_5068e ∈ nt_tbl := nt_t1 130 rfl rfl
theorem wd_91 : Cond.instanceMethod yJ0_charAt_5068e ∈ nt_tbl := nt_t1 131 rfl rfl
theorem wd_92 : Cond.selects RJ0 yJ0_charAt_5068e yJ0_charAt_5068e ∈ nt_tbl := nt_t1 132 rfl rfl
theorem wd_93 : Cond.code yJ0_charAt_5068e prog_15_method_56_code 2 (Option.some Jvm.ClassFile.FieldType.char) ∈ nt_tbl := nt_t1 133 rfl rfl
theorem wd_94 : Cond.methodLink RJ0 492 yJ0_isLatin1_aae02 ∈ nt_tbl := nt_t1 134 rfl rfl
theorem wd_95 : Cond.instanceMethod yJ0_isLatin1_aae02 ∈ nt_tbl := nt_t1 135 rfl rfl
theorem wd_96 : Cond.selects RJ0 yJ0_isLatin1_aae02 yJ0_isLatin1_aae02 ∈ nt_tbl := nt_t1 136 rfl rfl
theorem wd_97 : Cond.code yJ0_isLatin1_aae02 prog_15_method_154_code 1 (Option.some Jvm.ClassFile.FieldType.boolean) ∈ nt_tbl := nt_t1 137 rfl rfl
theorem wd_98 : Cond.methodLink RJ0 495 yJ1_charAt_3b067 ∈ nt_tbl := nt_t1 138 rfl rfl
theorem wd_99 : Cond.static yJ1_charAt_3b067 ∈ nt_tbl := nt_t1 139 rfl rfl
theorem wd_100 : Cond.code yJ1_charAt_3b067 prog_16_method_2_code 2 (Option.some Jvm.ClassFile.FieldType.char) ∈ nt_tbl := nt_t1 140 rfl rfl
theorem wd_101 : Cond.methodLink RJ1 9 yJ0_checkIndex_df160 ∈ nt_tbl := nt_t1 141 rfl rfl
theorem wd_102 : Cond.static yJ0_checkIndex_df160 ∈ nt_tbl := nt_t1 142 rfl rfl
theorem wd_103 : Cond.code yJ0_checkIndex_df160 prog_15_method_155_code 2 (Option.none : Option Jvm.ClassFile.FieldType) ∈ nt_tbl := nt_t1 143 rfl rfl
theorem wd_104 : Cond.fieldLink RJ0 1053 "jdk/internal/util/Preconditions" "SIOOBE_FORMATTER" "Ljava/util/function/BiFunction;" ∈ nt_tbl := nt_t1 144 rfl rfl
theorem wd_105 : Cond.methodLink RJ0 1059 yJ3_checkIndex_8e157 ∈ nt_tbl := nt_t1 146 rfl rfl
theorem wd_106 : Cond.static yJ3_checkIndex_8e157 ∈ nt_tbl := nt_t1 147 rfl rfl
theorem wd_107 : Cond.code yJ3_checkIndex_8e157 prog_19_method_11_code 3 (Option.some Jvm.ClassFile.FieldType.int) ∈ nt_tbl := nt_t1 148 rfl rfl
theorem wd_108 : Cond.methodLink RJ0 498 yJ2_charAt_3b067 ∈ nt_tbl := nt_t1 149 rfl rfl
theorem wd_109 : Cond.static yJ2_charAt_3b067 ∈ nt_tbl := nt_t1 150 rfl rfl
theorem wd_110 : Cond.code yJ2_charAt_3b067 prog_17_method_83_code 2 (Option.some Jvm.ClassFile.FieldType.char) ∈ nt_tbl := nt_t1 151 rfl rfl
theorem wd_111 : Cond.methodLink RJ2 67 yJ2_checkIndex_2214a ∈ nt_tbl := nt_t1 152 rfl rfl
theorem wd_112 : Cond.static yJ2_checkIndex_2214a ∈ nt_tbl := nt_t1 153 rfl rfl
theorem wd_113 : Cond.code yJ2_checkIndex_2214a prog_17_method_91_code 2 (Option.none : Option Jvm.ClassFile.FieldType) ∈ nt_tbl := nt_t1 154 rfl rfl
theorem wd_114 : Cond.methodLink RJ2 48 yJ2_length_9d52b ∈ nt_tbl := nt_t1 155 rfl rfl
theorem wd_115 : Cond.static yJ2_length_9d52b ∈ nt_tbl := nt_t1 156 rfl rfl
theorem wd_116 : Cond.code yJ2_length_9d52b prog_17_method_6_code 1 (Option.some Jvm.ClassFile.FieldType.int) ∈ nt_tbl := nt_t1 157 rfl rfl
theorem wd_117 : Cond.methodLink RJ2 414 yJ0_checkIndex_df160 ∈ nt_tbl := nt_t1 158 rfl rfl
theorem wd_118 : Cond.methodLink RJ2 71 yJ2_getChar_3b067 ∈ nt_tbl := nt_t1 159 rfl rfl
theorem wd_119 : Cond.static yJ2_getChar_3b067 ∈ nt_tbl := nt_t1 160 rfl rfl
theorem wd_120 : Cond.code yJ2_getChar_3b067 prog_17_method_5_code 2 (Option.some Jvm.ClassFile.FieldType.char) ∈ nt_tbl := nt_t1 161 rfl rfl
theorem wd_121 : Cond.fieldLink RJ2 44 "java/lang/StringUTF16" "$assertionsDisabled" "Z" ∈ nt_tbl := nt_t1 162 rfl rfl
theorem wd_122 : Cond.fieldLink RJ2 59 "java/lang/StringUTF16" "HI_BYTE_SHIFT" "I" ∈ nt_tbl := nt_t1 164 rfl rfl
theorem wd_123 : Cond.fieldLink RJ2 63 "java/lang/StringUTF16" "LO_BYTE_SHIFT" "I" ∈ nt_tbl := nt_t1 166 rfl rfl
theorem wd_124 : Cond.methodLink RX1 37 yX1_put ∈ nt_tbl := nt_t1 168 rfl rfl
theorem wd_125 : Cond.instanceMethod yX1_put ∈ nt_tbl := nt_t1 170 rfl rfl
theorem wd_126 : Cond.code yX1_put prog_3_method_2_code 2 (Option.some Jvm.ClassFile.FieldType.int) ∈ nt_tbl := nt_t1 171 rfl rfl
theorem wd_127 : Cond.instanceMethod yX1_reads ∈ nt_tbl := nt_t1 174 rfl rfl
theorem wd_128 : Cond.code yX1_reads prog_3_method_7_code 3 (Option.some Jvm.ClassFile.FieldType.boolean) ∈ nt_tbl := nt_t1 175 rfl rfl
theorem wd_129 : Cond.methodLink RX1 58 yX1_step ∈ nt_tbl := nt_t1 176 rfl rfl
theorem wd_130 : Cond.instanceMethod yX1_step ∈ nt_tbl := nt_t1 178 rfl rfl
theorem wd_131 : Cond.code yX1_step prog_3_method_14_code 2 (Option.none : Option Jvm.ClassFile.FieldType) ∈ nt_tbl := nt_t1 179 rfl rfl
theorem wd_132 : Cond.methodLink RX1 87 yX1_isLetter ∈ nt_tbl := nt_t1 180 rfl rfl
theorem wd_133 : Cond.static yX1_isLetter ∈ nt_tbl := nt_t1 181 rfl rfl
theorem wd_134 : Cond.code yX1_isLetter prog_3_method_15_code 1 (Option.some Jvm.ClassFile.FieldType.boolean) ∈ nt_tbl := nt_t1 182 rfl rfl
theorem wd_135 : Cond.methodLink RX1 90 yX1_word ∈ nt_tbl := nt_t1 183 rfl rfl
theorem wd_136 : Cond.instanceMethod yX1_word ∈ nt_tbl := nt_t1 185 rfl rfl
theorem wd_137 : Cond.code yX1_word prog_3_method_18_code 5 (Option.some Jvm.ClassFile.FieldType.int) ∈ nt_tbl := nt_t1 186 rfl rfl
theorem wd_138 : Cond.methodLink RX1 93 yX1_isDigit ∈ nt_tbl := nt_t1 188 rfl rfl
theorem wd_139 : Cond.static yX1_isDigit ∈ nt_tbl := nt_t1 189 rfl rfl
theorem wd_140 : Cond.code yX1_isDigit prog_3_method_16_code 1 (Option.some Jvm.ClassFile.FieldType.boolean) ∈ nt_tbl := nt_t1 190 rfl rfl
theorem wd_141 : Cond.methodLink RX1 96 yX1_numeral ∈ nt_tbl := nt_t1 191 rfl rfl
theorem wd_142 : Cond.instanceMethod yX1_numeral ∈ nt_tbl := nt_t1 193 rfl rfl
theorem wd_143 : Cond.code yX1_numeral prog_3_method_17_code 2 (Option.some Jvm.ClassFile.FieldType.int) ∈ nt_tbl := nt_t1 194 rfl rfl
theorem wd_144 : Cond.methodLink RX1 101 yJ0_indexOf_0f7a4 ∈ nt_tbl := nt_t1 196 rfl rfl
theorem wd_145 : Cond.instanceMethod yJ0_indexOf_0f7a4 ∈ nt_tbl := nt_t1 197 rfl rfl
theorem wd_146 : Cond.selects RJ0 yJ0_indexOf_0f7a4 yJ0_indexOf_0f7a4 ∈ nt_tbl := nt_t1 198 rfl rfl
theorem wd_147 : Cond.code yJ0_indexOf_0f7a4 prog_15_method_79_code 2 (Option.some Jvm.ClassFile.FieldType.int) ∈ nt_tbl := nt_t1 199 rfl rfl
theorem wd_148 : Cond.methodLink RJ0 633 yJ0_indexOf_7cf53 ∈ nt_tbl := nt_t1 200 rfl rfl
theorem wd_149 : Cond.instanceMethod yJ0_indexOf_7cf53 ∈ nt_tbl := nt_t1 201 rfl rfl
theorem wd_150 : Cond.selects RJ0 yJ0_indexOf_7cf53 yJ0_indexOf_7cf53 ∈ nt_tbl := nt_t1 202 rfl rfl
theorem wd_151 : Cond.code yJ0_indexOf_7cf53 prog_15_method_80_code 3 (Option.some Jvm.ClassFile.FieldType.int) ∈ nt_tbl := nt_t1 203 rfl rfl
theorem wd_152 : Cond.methodLink RJ0 505 yJ0_length_8abf5 ∈ nt_tbl := nt_t1 204 rfl rfl
theorem wd_153 : Cond.methodLink RJ0 637 yJ1_indexOf_4cfef ∈ nt_tbl := nt_t1 205 rfl rfl
theorem wd_154 : Cond.static yJ1_indexOf_4cfef ∈ nt_tbl := nt_t1 206 rfl rfl
theorem wd_155 : Cond.code yJ1_indexOf_4cfef prog_16_method_22_code 4 (Option.some Jvm.ClassFile.FieldType.int) ∈ nt_tbl := nt_t1 207 rfl rfl
theorem wd_156 : Cond.methodLink RJ1 88 yJ1_canEncode_9a6ad ∈ nt_tbl := nt_t1 208 rfl rfl
theorem wd_157 : Cond.static yJ1_canEncode_9a6ad ∈ nt_tbl := nt_t1 209 rfl rfl
theorem wd_158 : Cond.code yJ1_canEncode_9a6ad prog_16_method_4_code 1 (Option.some Jvm.ClassFile.FieldType.boolean) ∈ nt_tbl := nt_t1 210 rfl rfl
theorem wd_159 : Cond.methodLink RJ1 92 Lib.Math.max.name ∈ nt_tbl := nt_t1 211 rfl rfl
theorem wd_160 : Cond.static Lib.Math.max.name ∈ nt_tbl := nt_t1 212 rfl rfl
theorem wd_161 : Cond.code Lib.Math.max.name prog_14_method_65_code 2 (Option.some Jvm.ClassFile.FieldType.int) ∈ nt_tbl := nt_t1 213 rfl rfl
theorem wd_162 : Cond.methodLink RJ1 38 Lib.Math.min.name ∈ nt_tbl := nt_t1 214 rfl rfl
theorem wd_163 : Cond.static Lib.Math.min.name ∈ nt_tbl := nt_t1 215 rfl rfl
theorem wd_164 : Cond.code Lib.Math.min.name prog_14_method_69_code 2 (Option.some Jvm.ClassFile.FieldType.int) ∈ nt_tbl := nt_t1 216 rfl rfl
theorem wd_165 : Cond.methodLink RJ1 95 yJ1_indexOfChar_4cfef ∈ nt_tbl := nt_t1 217 rfl rfl
theorem wd_166 : Cond.static yJ1_indexOfChar_4cfef ∈ nt_tbl := nt_t1 218 rfl rfl
theorem wd_167 : Cond.code yJ1_indexOfChar_4cfef prog_16_method_23_code 6 (Option.some Jvm.ClassFile.FieldType.int) ∈ nt_tbl := nt_t1 219 rfl rfl
theorem wd_168 : Cond.methodLink RJ0 640 yJ2_indexOf_4cfef ∈ nt_tbl := nt_t1 220 rfl rfl
theorem wd_169 : Cond.static yJ2_indexOf_4cfef ∈ nt_tbl := nt_t1 221 rfl rfl
theorem wd_170 : Cond.code yJ2_indexOf_4cfef prog_17_method_40_code 4 (Option.some Jvm.ClassFile.FieldType.int) ∈ nt_tbl := nt_t1 222 rfl rfl
theorem wd_171 : Cond.methodLink RJ2 224 Lib.Math.max.name ∈ nt_tbl := nt_t1 223 rfl rfl
theorem wd_172 : Cond.methodLink RJ2 183 Lib.Math.min.name ∈ nt_tbl := nt_t1 224 rfl rfl
theorem wd_173 : Cond.constant RJ2 227 (65536 : Int32) ∈ nt_tbl := nt_t1 225 rfl rfl
theorem wd_174 : Cond.methodLink RJ2 228 yJ2_indexOfChar_4cfef ∈ nt_tbl := nt_t1 226 rfl rfl
theorem wd_175 : Cond.static yJ2_indexOfChar_4cfef ∈ nt_tbl := nt_t1 227 rfl rfl
theorem wd_176 : Cond.code yJ2_indexOfChar_4cfef prog_17_method_47_code 4 (Option.some Jvm.ClassFile.FieldType.int) ∈ nt_tbl := nt_t1 228 rfl rfl
theorem wd_177 : Cond.methodLink RJ2 96 yJ2_checkBoundsBeginEnd_d044e ∈ nt_tbl := nt_t1 229 rfl rfl
theorem wd_178 : Cond.static yJ2_checkBoundsBeginEnd_d044e ∈ nt_tbl := nt_t1 230 rfl rfl
theorem wd_179 : Cond.code yJ2_checkBoundsBeginEnd_d044e prog_17_method_93_code 3 (Option.none : Option Jvm.ClassFile.FieldType) ∈ nt_tbl := nt_t1 231 rfl rfl
theorem wd_180 : Cond.methodLink RJ2 241 yJ0_checkBoundsBeginEnd_23922 ∈ nt_tbl := nt_t1 232 rfl rfl
theorem wd_181 : Cond.static yJ0_checkBoundsBeginEnd_23922 ∈ nt_tbl := nt_t1 233 rfl rfl
theorem wd_182 : Cond.code yJ0_checkBoundsBeginEnd_23922 prog_15_method_158_code 3 (Option.none : Option Jvm.ClassFile.FieldType) ∈ nt_tbl := nt_t1 234 rfl rfl
theorem wd_183 : Cond.methodLink RJ0 1062 yJ3_checkFromToIndex_8c36e ∈ nt_tbl := nt_t1 235 rfl rfl
theorem wd_184 : Cond.static yJ3_checkFromToIndex_8c36e ∈ nt_tbl := nt_t1 236 rfl rfl
theorem wd_185 : Cond.code yJ3_checkFromToIndex_8c36e prog_19_method_12_code 4 (Option.some Jvm.ClassFile.FieldType.int) ∈ nt_tbl := nt_t1 237 rfl rfl
theorem wd_186 : Cond.methodLink RJ2 244 yJ2_indexOfCharUnsafe_4cfef ∈ nt_tbl := nt_t1 238 rfl rfl
theorem wd_187 : Cond.static yJ2_indexOfCharUnsafe_4cfef ∈ nt_tbl := nt_t1 239 rfl rfl
theorem wd_188 : Cond.code yJ2_indexOfCharUnsafe_4cfef prog_17_method_48_code 5 (Option.some Jvm.ClassFile.FieldType.int) ∈ nt_tbl := nt_t2 0 rfl rfl
theorem wd_189 : Cond.methodLink RJ2 232 yJ2_indexOfSupplementary_4cfef ∈ nt_tbl := nt_t2 1 rfl rfl
theorem wd_190 : Cond.static yJ2_indexOfSupplementary_4cfef ∈ nt_tbl := nt_t2 2 rfl rfl
theorem wd_191 : Cond.code yJ2_indexOfSupplementary_4cfef prog_17_method_49_code 7 (Option.some Jvm.ClassFile.FieldType.int) ∈ nt_tbl := nt_t2 3 rfl rfl
theorem wd_192 : Cond.methodLink RJ2 164 yJ11_isValidCodePoint_9a6ad ∈ nt_tbl := nt_t2 4 rfl rfl
theorem wd_193 : Cond.static yJ11_isValidCodePoint_9a6ad ∈ nt_tbl := nt_t2 5 rfl rfl
theorem wd_194 : Cond.code yJ11_isValidCodePoint_9a6ad prog_12_method_11_code 2 (Option.some Jvm.ClassFile.FieldType.boolean) ∈ nt_tbl := nt_t2 6 rfl rfl
theorem wd_195 : Cond.methodLink RJ2 157 yJ11_highSurrogate_5068e ∈ nt_tbl := nt_t2 7 rfl rfl
theorem wd_196 : Cond.static yJ11_highSurrogate_5068e ∈ nt_tbl := nt_t2 8 rfl rfl
theorem wd_197 : Cond.code yJ11_highSurrogate_5068e prog_12_method_28_code 1 (Option.some Jvm.ClassFile.FieldType.char) ∈ nt_tbl := nt_t2 9 rfl rfl
theorem wd_198 : Cond.constant RJ11 110 (55232 : Int32) ∈ nt_tbl := nt_t2 10 rfl rfl
theorem wd_199 : Cond.methodLink RJ2 161 yJ11_lowSurrogate_5068e ∈ nt_tbl := nt_t2 11 rfl rfl
theorem wd_200 : Cond.static yJ11_lowSurrogate_5068e ∈ nt_tbl := nt_t2 12 rfl rfl
theorem wd_201 : Cond.code yJ11_lowSurrogate_5068e prog_12_method_29_code 1 (Option.some Jvm.ClassFile.FieldType.char) ∈ nt_tbl := nt_t2 13 rfl rfl
theorem wd_202 : Cond.constant RJ11 76 (56320 : Int32) ∈ nt_tbl := nt_t2 14 rfl rfl
theorem wd_203 : Cond.methodLink RX1 63 yX1_takes ∈ nt_tbl := nt_t2 15 rfl rfl
theorem wd_204 : Cond.instanceMethod yX1_takes ∈ nt_tbl := nt_t2 17 rfl rfl
theorem wd_205 : Cond.code yX1_takes prog_3_method_12_code 2 (Option.some Jvm.ClassFile.FieldType.boolean) ∈ nt_tbl := nt_t2 18 rfl rfl
theorem wd_206 : Cond.methodLink RX1 67 yX1_readsLevel ∈ nt_tbl := nt_t2 19 rfl rfl
theorem wd_207 : Cond.instanceMethod yX1_readsLevel ∈ nt_tbl := nt_t2 21 rfl rfl
theorem wd_208 : Cond.code yX1_readsLevel prog_3_method_8_code 6 (Option.some Jvm.ClassFile.FieldType.boolean) ∈ nt_tbl := nt_t2 22 rfl rfl
theorem wd_209 : Cond.methodLink RX1 73 yX1_readsOpened ∈ nt_tbl := nt_t2 23 rfl rfl
theorem wd_210 : Cond.instanceMethod yX1_readsOpened ∈ nt_tbl := nt_t2 25 rfl rfl
theorem wd_211 : Cond.code yX1_readsOpened prog_3_method_10_code 3 (Option.some Jvm.ClassFile.FieldType.boolean) ∈ nt_tbl := nt_t2 26 rfl rfl
theorem wd_212 : Cond.methodLink RX1 83 yX1_write ∈ nt_tbl := nt_t2 27 rfl rfl
theorem wd_213 : Cond.instanceMethod yX1_write ∈ nt_tbl := nt_t2 29 rfl rfl
theorem wd_214 : Cond.code yX1_write prog_3_method_13_code 2 (Option.none : Option Jvm.ClassFile.FieldType) ∈ nt_tbl := nt_t2 30 rfl rfl
theorem wd_215 : Cond.methodLink RX1 77 yX1_readsPlain ∈ nt_tbl := nt_t2 31 rfl rfl
theorem wd_216 : Cond.instanceMethod yX1_readsPlain ∈ nt_tbl := nt_t2 33 rfl rfl
theorem wd_217 : Cond.code yX1_readsPlain prog_3_method_11_code 1 (Option.some Jvm.ClassFile.FieldType.boolean) ∈ nt_tbl := nt_t2 34 rfl rfl
theorem wd_218 : Cond.methodLink RX1 80 yX1_levelOf ∈ nt_tbl := nt_t2 35 rfl rfl
theorem wd_219 : Cond.static yX1_levelOf ∈ nt_tbl := nt_t2 36 rfl rfl
theorem wd_220 : Cond.code yX1_levelOf prog_3_method_9_code 1 (Option.some Jvm.ClassFile.FieldType.int) ∈ nt_tbl := nt_t2 37 rfl rfl
theorem wd_221 : Cond.instanceMethod yX1_made ∈ nt_tbl := nt_t2 40 rfl rfl
theorem wd_222 : Cond.code yX1_made prog_3_method_6_code 1 (Option.some (Jvm.ClassFile.FieldType.object "NotTwice$Rule")) ∈ nt_tbl := nt_t2 41 rfl rfl
theorem wd_223 : Cond.classLink RX1 44 "NotTwice$Rule" ∈ nt_tbl := nt_t2 42 rfl rfl
theorem wd_224 : Cond.instantiable RX2 3 ∈ nt_tbl := nt_t2 43 rfl rfl
theorem wd_225 : Cond.instanceMethod yX2_init ∈ nt_tbl := nt_t2 45 rfl rfl
theorem wd_226 : Cond.code yX2_init prog_4_method_1_code 5 (Option.none : Option Jvm.ClassFile.FieldType) ∈ nt_tbl := nt_t2 46 rfl rfl
theorem wd_227 : Cond.methodLink RX2 3 objectInit ∈ nt_tbl := nt_t2 47 rfl rfl
theorem wd_228 : Cond.methodLink RX2 15 arraycopyName ∈ nt_tbl := nt_t2 48 rfl rfl
theorem wd_229 : Cond.static arraycopyName ∈ nt_tbl := nt_t2 49 rfl rfl
theorem wd_230 : Cond.native arraycopyName ∈ nt_tbl := nt_t2 50 rfl rfl
theorem wd_231 : Cond.fieldLink RX2 9 "NotTwice$Rule" "code" "[I" ∈ nt_tbl := nt_t2 51 rfl rfl
theorem wd_232 : Cond.fieldLink RX2 21 "NotTwice$Rule" "paysAt" "I" ∈ nt_tbl := nt_t2 52 rfl rfl
theorem wd_233 : Cond.fieldLink RX2 25 "NotTwice$Rule" "tiresAt" "I" ∈ nt_tbl := nt_t2 53 rfl rfl
theorem wd_234 : Cond.laysFinal "NotTwice$Rule" "NotTwice$Rule" "code" "[I" ∈ nt_tbl := nt_t2 54 rfl rfl
theorem wd_235 : Cond.laysFinal "NotTwice$Rule" "NotTwice$Rule" "paysAt" "I" ∈ nt_tbl := nt_t2 56 rfl rfl
theorem wd_236 : Cond.laysFinal "NotTwice$Rule" "NotTwice$Rule" "tiresAt" "I" ∈ nt_tbl := nt_t2 58 rfl rfl
theorem wd_237 : Cond.arrayClass Jvm.ClassFile.FieldType.byte ∈ nt_tbl := nt_t2 61 rfl rfl
theorem wd_238 : Cond.instanceMethod yX7_add ∈ nt_tbl := nt_t2 64 rfl rfl
theorem wd_239 : Cond.code yX7_add prog_9_method_5_code 2 (Option.some Jvm.ClassFile.FieldType.int) ∈ nt_tbl := nt_t2 65 rfl rfl
theorem wd_240 : Cond.methodLink RX7 34 yX7_isFull ∈ nt_tbl := nt_t2 66 rfl rfl
theorem wd_241 : Cond.instanceMethod yX7_isFull ∈ nt_tbl := nt_t2 68 rfl rfl
theorem wd_242 : Cond.code yX7_isFull prog_9_method_4_code 1 (Option.some Jvm.ClassFile.FieldType.boolean) ∈ nt_tbl := nt_t2 69 rfl rfl
theorem wd_243 : Cond.instanceMethod yX1_empty ∈ nt_tbl := nt_t2 72 rfl rfl
theorem wd_244 : Cond.code yX1_empty prog_3_method_4_code 1 (Option.none : Option Jvm.ClassFile.FieldType) ∈ nt_tbl := nt_t2 73 rfl rfl
theorem wd_245 : Cond.classLink RX8 48 "NotTwice$People" ∈ nt_tbl := nt_t2 74 rfl rfl
theorem wd_246 : Cond.instantiable RX0 14 ∈ nt_tbl := nt_t2 75 rfl rfl
theorem wd_247 : Cond.instanceMethod yX0_init ∈ nt_tbl := nt_t2 77 rfl rfl
theorem wd_248 : Cond.code yX0_init prog_2_method_1_code 3 (Option.none : Option Jvm.ClassFile.FieldType) ∈ nt_tbl := nt_t2 78 rfl rfl
theorem wd_249 : Cond.methodLink RX0 3 objectInit ∈ nt_tbl := nt_t2 79 rfl rfl
theorem wd_250 : Cond.fieldLink RX0 30 "NotTwice$People" "shelf" "LNotTwice$Shelf;" ∈ nt_tbl := nt_t2 80 rfl rfl
theorem wd_251 : Cond.fieldLink RX0 34 "NotTwice$People" "texts" "LNotTwice$Texts;" ∈ nt_tbl := nt_t2 82 rfl rfl
theorem wd_252 : Cond.fieldLink RX0 9 "NotTwice$People" "house" "[I" ∈ nt_tbl := nt_t2 83 rfl rfl
theorem wd_253 : Cond.fieldLink RX0 15 "NotTwice$People" "age" "[I" ∈ nt_tbl := nt_t2 85 rfl rfl
theorem wd_254 : Cond.fieldLink RX0 18 "NotTwice$People" "tells" "[I" ∈ nt_tbl := nt_t2 87 rfl rfl
theorem wd_255 : Cond.fieldLink RX0 21 "NotTwice$People" "heard" "[I" ∈ nt_tbl := nt_t2 90 rfl rfl
theorem wd_256 : Cond.fieldLink RX0 24 "NotTwice$People" "since" "[I" ∈ nt_tbl := nt_t2 92 rfl rfl
theorem wd_257 : Cond.fieldLink RX0 38 "NotTwice$People" "size" "I" ∈ nt_tbl := nt_t2 93 rfl rfl
theorem wd_258 : Cond.fieldLink RX0 60 "NotTwice$People" "night" "I" ∈ nt_tbl := nt_t2 96 rfl rfl
theorem wd_259 : Cond.fieldLink RX0 63 "NotTwice$People" "rule" "I" ∈ nt_tbl := nt_t2 98 rfl rfl
theorem wd_260 : Cond.fieldLink RX0 72 "NotTwice$People" "many" "I" ∈ nt_tbl := nt_t2 100 rfl rfl
theorem wd_261 : Cond.fieldLink RX0 27 "NotTwice$People" "known" "[I" ∈ nt_tbl := nt_t2 101 rfl rfl
theorem wd_262 : Cond.fieldLink RX0 75 "NotTwice$People" "knownToOne" "I" ∈ nt_tbl := nt_t2 102 rfl rfl
theorem wd_263 : Cond.fieldLink RX0 78 "NotTwice$People" "knownToTwo" "I" ∈ nt_tbl := nt_t2 103 rfl rfl
theorem wd_264 : Cond.laysFinal "NotTwice$People" "NotTwice$People" "shelf" "LNotTwice$Shelf;" ∈ nt_tbl := nt_t2 104 rfl rfl
theorem wd_265 : Cond.laysFinal "NotTwice$People" "NotTwice$People" "texts" "LNotTwice$Texts;" ∈ nt_tbl := nt_t2 106 rfl rfl
theorem wd_266 : Cond.laysFinal "NotTwice$People" "NotTwice$People" "house" "[I" ∈ nt_tbl := nt_t2 108 rfl rfl
theorem wd_267 : Cond.laysFinal "NotTwice$People" "NotTwice$People" "age" "[I" ∈ nt_tbl := nt_t2 110 rfl rfl
theorem wd_268 : Cond.laysFinal "NotTwice$People" "NotTwice$People" "tells" "[I" ∈ nt_tbl := nt_t2 112 rfl rfl
theorem wd_269 : Cond.laysFinal "NotTwice$People" "NotTwice$People" "heard" "[I" ∈ nt_tbl := nt_t2 114 rfl rfl
theorem wd_270 : Cond.laysFinal "NotTwice$People" "NotTwice$People" "since" "[I" ∈ nt_tbl := nt_t2 116 rfl rfl
theorem wd_271 : Cond.lays "NotTwice$People" "NotTwice$People" "size" "I" ∈ nt_tbl := nt_t2 118 rfl rfl
theorem wd_272 : Cond.lays "NotTwice$People" "NotTwice$People" "night" "I" ∈ nt_tbl := nt_t2 120 rfl rfl
theorem wd_273 : Cond.lays "NotTwice$People" "NotTwice$People" "rule" "I" ∈ nt_tbl := nt_t2 122 rfl rfl
theorem wd_274 : Cond.lays "NotTwice$People" "NotTwice$People" "many" "I" ∈ nt_tbl := nt_t2 124 rfl rfl
theorem wd_275 : Cond.laysFinal "NotTwice$People" "NotTwice$People" "known" "[I" ∈ nt_tbl := nt_t2 126 rfl rfl
theorem wd_276 : Cond.lays "NotTwice$People" "NotTwice$People" "knownToOne" "I" ∈ nt_tbl := nt_t2 128 rfl rfl
theorem wd_277 : Cond.lays "NotTwice$People" "NotTwice$People" "knownToTwo" "I" ∈ nt_tbl := nt_t2 130 rfl rfl
theorem wd_278 : Cond.classLink RX8 63 "NotTwice$Seating" ∈ nt_tbl := nt_t2 133 rfl rfl
theorem wd_279 : Cond.instantiable RX3 9 ∈ nt_tbl := nt_t2 134 rfl rfl
theorem wd_280 : Cond.instanceMethod yX3_init ∈ nt_tbl := nt_t2 136 rfl rfl
theorem wd_281 : Cond.code yX3_init prog_5_method_1_code 2 (Option.none : Option Jvm.ClassFile.FieldType) ∈ nt_tbl := nt_t2 137 rfl rfl
theorem wd_282 : Cond.methodLink RX3 3 objectInit ∈ nt_tbl := nt_t2 138 rfl rfl
theorem wd_283 : Cond.fieldLink RX3 33 "NotTwice$Seating" "people" "LNotTwice$People;" ∈ nt_tbl := nt_t2 139 rfl rfl
theorem wd_284 : Cond.fieldLink RX3 9 "NotTwice$Seating" "seat" "[I" ∈ nt_tbl := nt_t2 140 rfl rfl
theorem wd_285 : Cond.fieldLink RX3 15 "NotTwice$Seating" "bestSeat" "[I" ∈ nt_tbl := nt_t2 141 rfl rfl
theorem wd_286 : Cond.fieldLink RX3 46 "NotTwice$Seating" "best" "I" ∈ nt_tbl := nt_t2 143 rfl rfl
theorem wd_287 : Cond.fieldLink RX3 18 "NotTwice$Seating" "known" "[I" ∈ nt_tbl := nt_t2 145 rfl rfl
theorem wd_288 : Cond.fieldLink RX3 21 "NotTwice$Seating" "awake" "[I" ∈ nt_tbl := nt_t2 146 rfl rfl
theorem wd_289 : Cond.fieldLink RX3 24 "NotTwice$Seating" "many" "[I" ∈ nt_tbl := nt_t2 147 rfl rfl
theorem wd_290 : Cond.fieldLink RX3 27 "NotTwice$Seating" "knownToOne" "[I" ∈ nt_tbl := nt_t2 148 rfl rfl
theorem wd_291 : Cond.fieldLink RX3 30 "NotTwice$Seating" "knownToTwo" "[I" ∈ nt_tbl := nt_t2 149 rfl rfl
theorem wd_292 : Cond.laysFinal "NotTwice$Seating" "NotTwice$Seating" "people" "LNotTwice$People;" ∈ nt_tbl := nt_t2 150 rfl rfl
theorem wd_293 : Cond.laysFinal "NotTwice$Seating" "NotTwice$Seating" "seat" "[I" ∈ nt_tbl := nt_t2 152 rfl rfl
theorem wd_294 : Cond.laysFinal "NotTwice$Seating" "NotTwice$Seating" "bestSeat" "[I" ∈ nt_tbl := nt_t2 154 rfl rfl
theorem wd_295 : Cond.lays "NotTwice$Seating" "NotTwice$Seating" "best" "I" ∈ nt_tbl := nt_t2 156 rfl rfl
theorem wd_296 : Cond.laysFinal "NotTwice$Seating" "NotTwice$Seating" "known" "[I" ∈ nt_tbl := nt_t2 158 rfl rfl
theorem wd_297 : Cond.laysFinal "NotTwice$Seating" "NotTwice$Seating" "awake" "[I" ∈ nt_tbl := nt_t2 160 rfl rfl
theorem wd_298 : Cond.laysFinal "NotTwice$Seating" "NotTwice$Seating" "many" "[I" ∈ nt_tbl := nt_t2 162 rfl rfl
theorem wd_299 : Cond.laysFinal "NotTwice$Seating" "NotTwice$Seating" "knownToOne" "[I" ∈ nt_tbl := nt_t2 164 rfl rfl
theorem wd_300 : Cond.laysFinal "NotTwice$Seating" "NotTwice$Seating" "knownToTwo" "[I" ∈ nt_tbl := nt_t2 166 rfl rfl
theorem wd_301 : Cond.classLink RX8 72 "NotTwice$Sheets" ∈ nt_tbl := nt_t2 169 rfl rfl
theorem wd_302 : Cond.instantiable RX4 3 ∈ nt_tbl := nt_t2 170 rfl rfl
theorem wd_303 : Cond.instanceMethod yX4_init ∈ nt_tbl := nt_t2 172 rfl rfl
theorem wd_304 : Cond.code yX4_init prog_6_method_1_code 2 (Option.none : Option Jvm.ClassFile.FieldType) ∈ nt_tbl := nt_t2 173 rfl rfl
theorem wd_305 : Cond.methodLink RX4 3 objectInit ∈ nt_tbl := nt_t2 174 rfl rfl
theorem wd_306 : Cond.fieldLink RX4 11 "NotTwice$Sheets" "sort" "[I" ∈ nt_tbl := nt_t2 175 rfl rfl
theorem wd_307 : Cond.fieldLink RX4 15 "NotTwice$Sheets" "size" "[I" ∈ nt_tbl := nt_t2 177 rfl rfl
theorem wd_308 : Cond.fieldLink RX4 18 "NotTwice$Sheets" "items" "[I" ∈ nt_tbl := nt_t2 179 rfl rfl
theorem wd_309 : Cond.laysFinal "NotTwice$Sheets" "NotTwice$Sheets" "sort" "[I" ∈ nt_tbl := nt_t2 180 rfl rfl
theorem wd_310 : Cond.laysFinal "NotTwice$Sheets" "NotTwice$Sheets" "size" "[I" ∈ nt_tbl := nt_t2 182 rfl rfl
theorem wd_311 : Cond.laysFinal "NotTwice$Sheets" "NotTwice$Sheets" "items" "[I" ∈ nt_tbl := nt_t2 184 rfl rfl
theorem wd_312 : Cond.fieldLink RX8 12 "NotTwice" "shelf" "LNotTwice$Shelf;" ∈ nt_tbl := nt_t2 187 rfl rfl
theorem wd_313 : Cond.fieldLink RX8 19 "NotTwice" "texts" "LNotTwice$Texts;" ∈ nt_tbl := nt_t2 188 rfl rfl
theorem wd_314 : Cond.fieldLink RX8 26 "NotTwice" "reader" "LNotTwice$Reader;" ∈ nt_tbl := nt_t2 189 rfl rfl
theorem wd_315 : Cond.fieldLink RX8 53 "NotTwice" "now" "LNotTwice$People;" ∈ nt_tbl := nt_t2 190 rfl rfl
theorem wd_316 : Cond.fieldLink RX8 57 "NotTwice" "thought" "LNotTwice$People;" ∈ nt_tbl := nt_t2 191 rfl rfl
theorem wd_317 : Cond.fieldLink RX8 60 "NotTwice" "image" "LNotTwice$People;" ∈ nt_tbl := nt_t2 192 rfl rfl
theorem wd_318 : Cond.fieldLink RX8 68 "NotTwice" "seating" "LNotTwice$Seating;" ∈ nt_tbl := nt_t2 193 rfl rfl
theorem wd_319 : Cond.fieldLink RX8 75 "NotTwice" "sheets" "LNotTwice$Sheets;" ∈ nt_tbl := nt_t2 194 rfl rfl
theorem wd_320 : Cond.fieldLink RX8 235 "NotTwice" "imageKept" "Z" ∈ nt_tbl := nt_t2 195 rfl rfl
theorem wd_321 : Cond.laysFinal "NotTwice" "NotTwice" "shelf" "LNotTwice$Shelf;" ∈ nt_tbl := nt_t2 196 rfl rfl
theorem wd_322 : Cond.laysFinal "NotTwice" "NotTwice" "texts" "LNotTwice$Texts;" ∈ nt_tbl := nt_t2 198 rfl rfl
theorem wd_323 : Cond.laysFinal "NotTwice" "NotTwice" "reader" "LNotTwice$Reader;" ∈ nt_tbl := nt_t2 200 rfl rfl
theorem wd_324 : Cond.laysFinal "NotTwice" "NotTwice" "now" "LNotTwice$People;" ∈ nt_tbl := nt_t2 202 rfl rfl
theorem wd_325 : Cond.laysFinal "NotTwice" "NotTwice" "thought" "LNotTwice$People;" ∈ nt_tbl := nt_t2 204 rfl rfl
theorem wd_326 : Cond.laysFinal "NotTwice" "NotTwice" "image" "LNotTwice$People;" ∈ nt_tbl := nt_t2 206 rfl rfl
theorem wd_327 : Cond.laysFinal "NotTwice" "NotTwice" "seating" "LNotTwice$Seating;" ∈ nt_tbl := nt_t2 208 rfl rfl
theorem wd_328 : Cond.laysFinal "NotTwice" "NotTwice" "sheets" "LNotTwice$Sheets;" ∈ nt_tbl := nt_t2 210 rfl rfl
theorem wd_329 : Cond.lays "NotTwice" "NotTwice" "imageKept" "Z" ∈ nt_tbl := nt_t2 212 rfl rfl
theorem wd_330 : Cond.methodLink RL 13 yX8_story ∈ nt_tbl := nt_t2 215 rfl rfl
theorem wd_331 : Cond.instanceMethod yX8_story ∈ nt_tbl := nt_t2 216 rfl rfl
theorem wd_332 : Cond.selects RX8 yX8_story yX8_story ∈ nt_tbl := nt_t2 217 rfl rfl
theorem wd_333 : Cond.code yX8_story prog_1_method_2_code 4 (Option.some Jvm.ClassFile.FieldType.int) ∈ nt_tbl := nt_t2 218 rfl rfl
theorem wd_334 : Cond.methodLink RX8 79 yX8_isBelow ∈ nt_tbl := nt_t2 219 rfl rfl
theorem wd_335 : Cond.static yX8_isBelow ∈ nt_tbl := nt_t2 220 rfl rfl
theorem wd_336 : Cond.code yX8_isBelow prog_1_method_34_code 2 (Option.some Jvm.ClassFile.FieldType.boolean) ∈ nt_tbl := nt_t2 221 rfl rfl
theorem wd_337 : Cond.instanceMethod yX5_add ∈ nt_tbl := nt_t2 224 rfl rfl
theorem wd_338 : Cond.code yX5_add prog_7_method_4_code 4 (Option.some Jvm.ClassFile.FieldType.int) ∈ nt_tbl := nt_t2 225 rfl rfl
theorem wd_339 : Cond.methodLink RL 18 yX8_twin ∈ nt_tbl := nt_t2 226 rfl rfl
theorem wd_340 : Cond.instanceMethod yX8_twin ∈ nt_tbl := nt_t2 227 rfl rfl
theorem wd_341 : Cond.selects RX8 yX8_twin yX8_twin ∈ nt_tbl := nt_t2 228 rfl rfl
theorem wd_342 : Cond.code yX8_twin prog_1_method_3_code 3 (Option.some Jvm.ClassFile.FieldType.int) ∈ nt_tbl := nt_t2 229 rfl rfl
theorem wd_343 : Cond.instanceMethod yX5_has ∈ nt_tbl := nt_t2 232 rfl rfl
theorem wd_344 : Cond.code yX5_has prog_7_method_2_code 2 (Option.some Jvm.ClassFile.FieldType.boolean) ∈ nt_tbl := nt_t2 233 rfl rfl
theorem wd_345 : Cond.instanceMethod yX5_join ∈ nt_tbl := nt_t2 237 rfl rfl
theorem wd_346 : Cond.code yX5_join prog_7_method_5_code 3 (Option.none : Option Jvm.ClassFile.FieldType) ∈ nt_tbl := nt_t2 238 rfl rfl
theorem wd_347 : Cond.methodLink RX5 32 yX5_part ∈ nt_tbl := nt_t2 239 rfl rfl
theorem wd_348 : Cond.instanceMethod yX5_part ∈ nt_tbl := nt_t3 1 rfl rfl
theorem wd_349 : Cond.code yX5_part prog_7_method_6_code 3 (Option.none : Option Jvm.ClassFile.FieldType) ∈ nt_tbl := nt_t3 2 rfl rfl
theorem wd_350 : Cond.methodLink RX5 36 yX5_has ∈ nt_tbl := nt_t3 3 rfl rfl
theorem wd_351 : Cond.methodLink RL 23 yX8_person ∈ nt_tbl := nt_t3 4 rfl rfl
theorem wd_352 : Cond.instanceMethod yX8_person ∈ nt_tbl := nt_t3 5 rfl rfl
theorem wd_353 : Cond.selects RX8 yX8_person yX8_person ∈ nt_tbl := nt_t3 6 rfl rfl
theorem wd_354 : Cond.code yX8_person prog_1_method_4_code 3 (Option.some Jvm.ClassFile.FieldType.int) ∈ nt_tbl := nt_t3 7 rfl rfl
theorem wd_355 : Cond.instanceMethod yX0_come ∈ nt_tbl := nt_t3 10 rfl rfl
theorem wd_356 : Cond.code yX0_come prog_2_method_3_code 3 (Option.some Jvm.ClassFile.FieldType.int) ∈ nt_tbl := nt_t3 11 rfl rfl
theorem wd_357 : Cond.methodLink RX0 46 yX0_sit ∈ nt_tbl := nt_t3 13 rfl rfl
theorem wd_358 : Cond.instanceMethod yX0_sit ∈ nt_tbl := nt_t3 15 rfl rfl
theorem wd_359 : Cond.code yX0_sit prog_2_method_4_code 4 (Option.none : Option Jvm.ClassFile.FieldType) ∈ nt_tbl := nt_t3 16 rfl rfl
theorem wd_360 : Cond.methodLink RL 27 yX8_set ∈ nt_tbl := nt_t3 17 rfl rfl
theorem wd_361 : Cond.instanceMethod yX8_set ∈ nt_tbl := nt_t3 18 rfl rfl
theorem wd_362 : Cond.selects RX8 yX8_set yX8_set ∈ nt_tbl := nt_t3 19 rfl rfl
theorem wd_363 : Cond.code yX8_set prog_1_method_5_code 4 (Option.some Jvm.ClassFile.FieldType.int) ∈ nt_tbl := nt_t3 20 rfl rfl
theorem wd_364 : Cond.instanceMethod yX0_has ∈ nt_tbl := nt_t3 23 rfl rfl
theorem wd_365 : Cond.code yX0_has prog_2_method_2_code 2 (Option.some Jvm.ClassFile.FieldType.boolean) ∈ nt_tbl := nt_t3 24 rfl rfl
theorem wd_366 : Cond.methodLink RX8 99 yX8_isHouse ∈ nt_tbl := nt_t3 25 rfl rfl
theorem wd_367 : Cond.static yX8_isHouse ∈ nt_tbl := nt_t3 26 rfl rfl
theorem wd_368 : Cond.code yX8_isHouse prog_1_method_35_code 1 (Option.some Jvm.ClassFile.FieldType.boolean) ∈ nt_tbl := nt_t3 27 rfl rfl
theorem wd_369 : Cond.methodLink RX8 106 yX8_put ∈ nt_tbl := nt_t3 28 rfl rfl
theorem wd_370 : Cond.static yX8_put ∈ nt_tbl := nt_t3 29 rfl rfl
theorem wd_371 : Cond.code yX8_put prog_1_method_36_code 4 (Option.some Jvm.ClassFile.FieldType.int) ∈ nt_tbl := nt_t3 30 rfl rfl
theorem wd_372 : Cond.methodLink RL 31 yX8_hears ∈ nt_tbl := nt_t3 31 rfl rfl
theorem wd_373 : Cond.instanceMethod yX8_hears ∈ nt_tbl := nt_t3 32 rfl rfl
theorem wd_374 : Cond.selects RX8 yX8_hears yX8_hears ∈ nt_tbl := nt_t3 33 rfl rfl
theorem wd_375 : Cond.code yX8_hears prog_1_method_6_code 5 (Option.some Jvm.ClassFile.FieldType.int) ∈ nt_tbl := nt_t3 34 rfl rfl
theorem wd_376 : Cond.instanceMethod yX0_hear ∈ nt_tbl := nt_t3 37 rfl rfl
theorem wd_377 : Cond.code yX0_hear prog_2_method_7_code 3 (Option.none : Option Jvm.ClassFile.FieldType) ∈ nt_tbl := nt_t3 38 rfl rfl
theorem wd_378 : Cond.instanceMethod yX0_forget ∈ nt_tbl := nt_t3 41 rfl rfl
theorem wd_379 : Cond.code yX0_forget prog_2_method_8_code 3 (Option.none : Option Jvm.ClassFile.FieldType) ∈ nt_tbl := nt_t3 42 rfl rfl
theorem wd_380 : Cond.methodLink RL 35 yX8_told ∈ nt_tbl := nt_t3 43 rfl rfl
theorem wd_381 : Cond.instanceMethod yX8_told ∈ nt_tbl := nt_t3 44 rfl rfl
theorem wd_382 : Cond.selects RX8 yX8_told yX8_told ∈ nt_tbl := nt_t3 45 rfl rfl
theorem wd_383 : Cond.code yX8_told prog_1_method_7_code 4 (Option.some Jvm.ClassFile.FieldType.int) ∈ nt_tbl := nt_t3 46 rfl rfl
theorem wd_384 : Cond.instanceMethod yX5_stays ∈ nt_tbl := nt_t3 49 rfl rfl
theorem wd_385 : Cond.code yX5_stays prog_7_method_9_code 5 (Option.some Jvm.ClassFile.FieldType.int) ∈ nt_tbl := nt_t3 50 rfl rfl
theorem wd_386 : Cond.methodLink RX5 40 Lib.Math.max.name ∈ nt_tbl := nt_t3 51 rfl rfl
theorem wd_387 : Cond.instanceMethod yX5_counts ∈ nt_tbl := nt_t3 54 rfl rfl
theorem wd_388 : Cond.code yX5_counts prog_7_method_8_code 6 (Option.some Jvm.ClassFile.FieldType.int) ∈ nt_tbl := nt_t3 55 rfl rfl
theorem wd_389 : Cond.methodLink RL 39 yX8_one ∈ nt_tbl := nt_t3 56 rfl rfl
theorem wd_390 : Cond.instanceMethod yX8_one ∈ nt_tbl := nt_t3 57 rfl rfl
theorem wd_391 : Cond.selects RX8 yX8_one yX8_one ∈ nt_tbl := nt_t3 58 rfl rfl
theorem wd_392 : Cond.code yX8_one prog_1_method_8_code 3 (Option.some Jvm.ClassFile.FieldType.int) ∈ nt_tbl := nt_t3 59 rfl rfl
theorem wd_393 : Cond.instanceMethod yX0_knows ∈ nt_tbl := nt_t3 62 rfl rfl
theorem wd_394 : Cond.code yX0_knows prog_2_method_9_code 2 (Option.some Jvm.ClassFile.FieldType.int) ∈ nt_tbl := nt_t3 63 rfl rfl
theorem wd_395 : Cond.instanceMethod yX5_withTwins ∈ nt_tbl := nt_t3 66 rfl rfl
theorem wd_396 : Cond.code yX5_withTwins prog_7_method_7_code 4 (Option.some Jvm.ClassFile.FieldType.int) ∈ nt_tbl := nt_t3 67 rfl rfl
theorem wd_397 : Cond.methodLink RL 43 yX8_feed ∈ nt_tbl := nt_t3 68 rfl rfl
theorem wd_398 : Cond.instanceMethod yX8_feed ∈ nt_tbl := nt_t3 69 rfl rfl
theorem wd_399 : Cond.selects RX8 yX8_feed yX8_feed ∈ nt_tbl := nt_t3 70 rfl rfl
theorem wd_400 : Cond.code yX8_feed prog_1_method_9_code 2 (Option.some Jvm.ClassFile.FieldType.int) ∈ nt_tbl := nt_t3 71 rfl rfl
theorem wd_401 : Cond.methodLink RL 48 yX8_text ∈ nt_tbl := nt_t3 73 rfl rfl
theorem wd_402 : Cond.instanceMethod yX8_text ∈ nt_tbl := nt_t3 74 rfl rfl
theorem wd_403 : Cond.selects RX8 yX8_text yX8_text ∈ nt_tbl := nt_t3 75 rfl rfl
theorem wd_404 : Cond.code yX8_text prog_1_method_10_code 2 (Option.some Jvm.ClassFile.FieldType.int) ∈ nt_tbl := nt_t3 76 rfl rfl
theorem wd_405 : Cond.instanceMethod yX1_place ∈ nt_tbl := nt_t3 80 rfl rfl
theorem wd_406 : Cond.code yX1_place prog_3_method_5_code 1 (Option.some Jvm.ClassFile.FieldType.int) ∈ nt_tbl := nt_t3 81 rfl rfl
theorem wd_407 : Cond.methodLink RL 53 yX8_force ∈ nt_tbl := nt_t3 82 rfl rfl
theorem wd_408 : Cond.instanceMethod yX8_force ∈ nt_tbl := nt_t3 83 rfl rfl
theorem wd_409 : Cond.selects RX8 yX8_force yX8_force ∈ nt_tbl := nt_t3 84 rfl rfl
theorem wd_410 : Cond.code yX8_force prog_1_method_11_code 3 (Option.some Jvm.ClassFile.FieldType.int) ∈ nt_tbl := nt_t3 85 rfl rfl
theorem wd_411 : Cond.instanceMethod yX7_has ∈ nt_tbl := nt_t3 88 rfl rfl
theorem wd_412 : Cond.code yX7_has prog_9_method_2_code 2 (Option.some Jvm.ClassFile.FieldType.boolean) ∈ nt_tbl := nt_t3 89 rfl rfl
theorem wd_413 : Cond.methodLink RL 57 yX8_may ∈ nt_tbl := nt_t3 91 rfl rfl
theorem wd_414 : Cond.instanceMethod yX8_may ∈ nt_tbl := nt_t3 92 rfl rfl
theorem wd_415 : Cond.selects RX8 yX8_may yX8_may ∈ nt_tbl := nt_t3 93 rfl rfl
theorem wd_416 : Cond.code yX8_may prog_1_method_12_code 2 (Option.some Jvm.ClassFile.FieldType.int) ∈ nt_tbl := nt_t3 94 rfl rfl
theorem wd_417 : Cond.instanceMethod yX0_tellableIn ∈ nt_tbl := nt_t3 97 rfl rfl
theorem wd_418 : Cond.code yX0_tellableIn prog_2_method_14_code 4 (Option.some Jvm.ClassFile.FieldType.int) ∈ nt_tbl := nt_t3 98 rfl rfl
theorem wd_419 : Cond.methodLink RX0 96 yX0_lookInto ∈ nt_tbl := nt_t3 99 rfl rfl
theorem wd_420 : Cond.instanceMethod yX0_lookInto ∈ nt_tbl := nt_t3 101 rfl rfl
theorem wd_421 : Cond.code yX0_lookInto prog_2_method_10_code 3 (Option.none : Option Jvm.ClassFile.FieldType) ∈ nt_tbl := nt_t3 102 rfl rfl
theorem wd_422 : Cond.methodLink RX0 81 yX0_knows ∈ nt_tbl := nt_t3 103 rfl rfl
theorem wd_423 : Cond.methodLink RX0 100 yX0_tellableOf ∈ nt_tbl := nt_t3 104 rfl rfl
theorem wd_424 : Cond.instanceMethod yX0_tellableOf ∈ nt_tbl := nt_t3 106 rfl rfl
theorem wd_425 : Cond.code yX0_tellableOf prog_2_method_12_code 5 (Option.some Jvm.ClassFile.FieldType.int) ∈ nt_tbl := nt_t3 107 rfl rfl
theorem wd_426 : Cond.methodLink RX0 88 yX0_newToOthers ∈ nt_tbl := nt_t3 108 rfl rfl
theorem wd_427 : Cond.instanceMethod yX0_newToOthers ∈ nt_tbl := nt_t3 110 rfl rfl
theorem wd_428 : Cond.code yX0_newToOthers prog_2_method_11_code 2 (Option.some Jvm.ClassFile.FieldType.int) ∈ nt_tbl := nt_t3 111 rfl rfl
theorem wd_429 : Cond.instanceMethod yX5_all ∈ nt_tbl := nt_t3 114 rfl rfl
theorem wd_430 : Cond.code yX5_all prog_7_method_3_code 1 (Option.some Jvm.ClassFile.FieldType.int) ∈ nt_tbl := nt_t3 115 rfl rfl
theorem wd_431 : Cond.methodLink RX0 92 yX0_value ∈ nt_tbl := nt_t3 116 rfl rfl
theorem wd_432 : Cond.instanceMethod yX0_value ∈ nt_tbl := nt_t3 118 rfl rfl
theorem wd_433 : Cond.code yX0_value prog_2_method_23_code 7 (Option.some Jvm.ClassFile.FieldType.int) ∈ nt_tbl := nt_t3 119 rfl rfl
theorem wd_434 : Cond.instanceMethod yX7_at ∈ nt_tbl := nt_t3 122 rfl rfl
theorem wd_435 : Cond.code yX7_at prog_9_method_3_code 2 (Option.some (Jvm.ClassFile.FieldType.object "NotTwice$Rule")) ∈ nt_tbl := nt_t3 123 rfl rfl
theorem wd_436 : Cond.methodLink RX0 143 yJ6_bitCount_0f7a4 ∈ nt_tbl := nt_t3 125 rfl rfl
theorem wd_437 : Cond.static yJ6_bitCount_0f7a4 ∈ nt_tbl := nt_t3 126 rfl rfl
theorem wd_438 : Cond.code yJ6_bitCount_0f7a4 prog_13_method_49_code 1 (Option.some Jvm.ClassFile.FieldType.int) ∈ nt_tbl := nt_t3 127 rfl rfl
theorem wd_439 : Cond.constant RJ6 265 (1431655765 : Int32) ∈ nt_tbl := nt_t3 128 rfl rfl
theorem wd_440 : Cond.constant RJ6 266 (858993459 : Int32) ∈ nt_tbl := nt_t3 129 rfl rfl
theorem wd_441 : Cond.constant RJ6 267 (252645135 : Int32) ∈ nt_tbl := nt_t3 130 rfl rfl
theorem wd_442 : Cond.instanceMethod yX2_value ∈ nt_tbl := nt_t3 133 rfl rfl
theorem wd_443 : Cond.code yX2_value prog_4_method_2_code 10 (Option.some Jvm.ClassFile.FieldType.int) ∈ nt_tbl := nt_t3 134 rfl rfl
theorem wd_444 : Cond.methodLink RX2 30 yX2_joined ∈ nt_tbl := nt_t3 135 rfl rfl
theorem wd_445 : Cond.static yX2_joined ∈ nt_tbl := nt_t3 136 rfl rfl
theorem wd_446 : Cond.code yX2_joined prog_4_method_3_code 3 (Option.some Jvm.ClassFile.FieldType.int) ∈ nt_tbl := nt_t3 137 rfl rfl
theorem wd_447 : Cond.methodLink RL 61 yX8_by ∈ nt_tbl := nt_t3 138 rfl rfl
theorem wd_448 : Cond.instanceMethod yX8_by ∈ nt_tbl := nt_t3 139 rfl rfl
theorem wd_449 : Cond.selects RX8 yX8_by yX8_by ∈ nt_tbl := nt_t3 140 rfl rfl
theorem wd_450 : Cond.code yX8_by prog_1_method_13_code 3 (Option.some Jvm.ClassFile.FieldType.int) ∈ nt_tbl := nt_t3 141 rfl rfl
theorem wd_451 : Cond.instanceMethod yX0_byWhom ∈ nt_tbl := nt_t3 144 rfl rfl
theorem wd_452 : Cond.code yX0_byWhom prog_2_method_16_code 3 (Option.some Jvm.ClassFile.FieldType.int) ∈ nt_tbl := nt_t3 145 rfl rfl
theorem wd_453 : Cond.methodLink RX0 104 yX0_firstTeller ∈ nt_tbl := nt_t3 146 rfl rfl
theorem wd_454 : Cond.instanceMethod yX0_firstTeller ∈ nt_tbl := nt_t3 148 rfl rfl
theorem wd_455 : Cond.code yX0_firstTeller prog_2_method_17_code 4 (Option.some Jvm.ClassFile.FieldType.int) ∈ nt_tbl := nt_t3 149 rfl rfl
theorem wd_456 : Cond.methodLink RL 65 yX8_worth ∈ nt_tbl := nt_t3 150 rfl rfl
theorem wd_457 : Cond.instanceMethod yX8_worth ∈ nt_tbl := nt_t3 151 rfl rfl
theorem wd_458 : Cond.selects RX8 yX8_worth yX8_worth ∈ nt_tbl := nt_t3 152 rfl rfl
theorem wd_459 : Cond.code yX8_worth prog_1_method_14_code 3 (Option.some Jvm.ClassFile.FieldType.long) ∈ nt_tbl := nt_t3 153 rfl rfl
theorem wd_460 : Cond.instanceMethod yX0_worthOf ∈ nt_tbl := nt_t3 156 rfl rfl
theorem wd_461 : Cond.code yX0_worthOf prog_2_method_18_code 4 (Option.some Jvm.ClassFile.FieldType.long) ∈ nt_tbl := nt_t3 157 rfl rfl
theorem wd_462 : Cond.constantLong RX0 107 (-4611686018427387904 : Int64) ∈ nt_tbl := nt_t3 158 rfl rfl
theorem wd_463 : Cond.methodLink RX0 109 yX0_worthBy ∈ nt_tbl := nt_t3 159 rfl rfl
theorem wd_464 : Cond.instanceMethod yX0_worthBy ∈ nt_tbl := nt_t3 161 rfl rfl
theorem wd_465 : Cond.code yX0_worthBy prog_2_method_19_code 5 (Option.some Jvm.ClassFile.FieldType.long) ∈ nt_tbl := nt_t3 162 rfl rfl
theorem wd_466 : Cond.methodLink RX0 113 yX0_bounded ∈ nt_tbl := nt_t3 163 rfl rfl
theorem wd_467 : Cond.static yX0_bounded ∈ nt_tbl := nt_t3 164 rfl rfl
theorem wd_468 : Cond.code yX0_bounded prog_2_method_24_code 2 (Option.some Jvm.ClassFile.FieldType.int) ∈ nt_tbl := nt_t3 165 rfl rfl
theorem wd_469 : Cond.methodLink RX0 120 Lib.Math.min.name ∈ nt_tbl := nt_t3 166 rfl rfl
theorem wd_470 : Cond.methodLink RX0 156 Lib.Math.max.name ∈ nt_tbl := nt_t3 167 rfl rfl
theorem wd_471 : Cond.constantLong RX8 171 (-4611686018427387904 : Int64) ∈ nt_tbl := nt_t3 168 rfl rfl
theorem wd_472 : Cond.methodLink RL 70 yX8_most ∈ nt_tbl := nt_t3 169 rfl rfl
theorem wd_473 : Cond.instanceMethod yX8_most ∈ nt_tbl := nt_t3 170 rfl rfl
theorem wd_474 : Cond.selects RX8 yX8_most yX8_most ∈ nt_tbl := nt_t3 171 rfl rfl
theorem wd_475 : Cond.code yX8_most prog_1_method_15_code 4 (Option.some Jvm.ClassFile.FieldType.long) ∈ nt_tbl := nt_t3 172 rfl rfl
theorem wd_476 : Cond.instanceMethod yX0_bestOf ∈ nt_tbl := nt_t3 175 rfl rfl
theorem wd_477 : Cond.code yX0_bestOf prog_2_method_20_code 9 (Option.some Jvm.ClassFile.FieldType.int) ∈ nt_tbl := nt_t3 176 rfl rfl
theorem wd_478 : Cond.methodLink RL 74 yX8_tell ∈ nt_tbl := nt_t3 177 rfl rfl
theorem wd_479 : Cond.instanceMethod yX8_tell ∈ nt_tbl := nt_t3 178 rfl rfl
theorem wd_480 : Cond.selects RX8 yX8_tell yX8_tell ∈ nt_tbl := nt_t3 179 rfl rfl
theorem wd_481 : Cond.code yX8_tell prog_1_method_16_code 3 (Option.some Jvm.ClassFile.FieldType.int) ∈ nt_tbl := nt_t3 180 rfl rfl
theorem wd_482 : Cond.instanceMethod yX0_spend ∈ nt_tbl := nt_t3 183 rfl rfl
theorem wd_483 : Cond.code yX0_spend prog_2_method_21_code 5 (Option.some Jvm.ClassFile.FieldType.int) ∈ nt_tbl := nt_t3 184 rfl rfl
theorem wd_484 : Cond.methodLink RX0 116 yX0_hear ∈ nt_tbl := nt_t3 185 rfl rfl
theorem wd_485 : Cond.methodLink RL 78 yX8_pass ∈ nt_tbl := nt_t3 186 rfl rfl
theorem wd_486 : Cond.instanceMethod yX8_pass ∈ nt_tbl := nt_t3 187 rfl rfl
theorem wd_487 : Cond.selects RX8 yX8_pass yX8_pass ∈ nt_tbl := nt_t3 188 rfl rfl
theorem wd_488 : Cond.code yX8_pass prog_1_method_17_code 1 (Option.some Jvm.ClassFile.FieldType.int) ∈ nt_tbl := nt_t3 189 rfl rfl
theorem wd_489 : Cond.instanceMethod yX0_sleep ∈ nt_tbl := nt_t3 192 rfl rfl
theorem wd_490 : Cond.code yX0_sleep prog_2_method_22_code 4 (Option.none : Option Jvm.ClassFile.FieldType) ∈ nt_tbl := nt_t3 193 rfl rfl
theorem wd_491 : Cond.methodLink RX0 128 yX0_forget ∈ nt_tbl := nt_t3 195 rfl rfl
theorem wd_492 : Cond.methodLink RL 82 yX8_goesOn ∈ nt_tbl := nt_t3 196 rfl rfl
theorem wd_493 : Cond.instanceMethod yX8_goesOn ∈ nt_tbl := nt_t3 197 rfl rfl
theorem wd_494 : Cond.selects RX8 yX8_goesOn yX8_goesOn ∈ nt_tbl := nt_t3 198 rfl rfl
theorem wd_495 : Cond.code yX8_goesOn prog_1_method_18_code 6 (Option.some Jvm.ClassFile.FieldType.int) ∈ nt_tbl := nt_t3 199 rfl rfl
theorem wd_496 : Cond.instanceMethod yX0_unheardIn ∈ nt_tbl := nt_t3 202 rfl rfl
theorem wd_497 : Cond.code yX0_unheardIn prog_2_method_15_code 4 (Option.some Jvm.ClassFile.FieldType.int) ∈ nt_tbl := nt_t3 203 rfl rfl
theorem wd_498 : Cond.methodLink RX8 188 yJ6_bitCount_0f7a4 ∈ nt_tbl := nt_t3 204 rfl rfl
theorem wd_499 : Cond.methodLink RX8 193 yX8_canTellAll ∈ nt_tbl := nt_t3 205 rfl rfl
theorem wd_500 : Cond.instanceMethod yX8_canTellAll ∈ nt_tbl := nt_t3 207 rfl rfl
theorem wd_501 : Cond.code yX8_canTellAll prog_1_method_37_code 4 (Option.some Jvm.ClassFile.FieldType.boolean) ∈ nt_tbl := nt_t3 208 rfl rfl
theorem wd_502 : Cond.instanceMethod yX0_takeAll ∈ nt_tbl := nt_t3 211 rfl rfl
theorem wd_503 : Cond.code yX0_takeAll prog_2_method_5_code 2 (Option.none : Option Jvm.ClassFile.FieldType) ∈ nt_tbl := nt_t3 212 rfl rfl
theorem wd_504 : Cond.methodLink RX0 50 arraycopyName ∈ nt_tbl := nt_t3 213 rfl rfl
theorem wd_505 : Cond.methodLink RX0 56 yX0_goBackTo ∈ nt_tbl := nt_t3 214 rfl rfl
theorem wd_506 : Cond.instanceMethod yX0_goBackTo ∈ nt_tbl := nt_t3 216 rfl rfl
theorem wd_507 : Cond.code yX0_goBackTo prog_2_method_6_code 2 (Option.none : Option Jvm.ClassFile.FieldType) ∈ nt_tbl := nt_t3 217 rfl rfl
theorem wd_508 : Cond.methodLink RL 86 yX8_spread ∈ nt_tbl := nt_t3 218 rfl rfl
theorem wd_509 : Cond.instanceMethod yX8_spread ∈ nt_tbl := nt_t3 219 rfl rfl
theorem wd_510 : Cond.selects RX8 yX8_spread yX8_spread ∈ nt_tbl := nt_t3 220 rfl rfl
theorem wd_511 : Cond.code yX8_spread prog_1_method_19_code 3 (Option.some Jvm.ClassFile.FieldType.int) ∈ nt_tbl := nt_t3 221 rfl rfl
theorem wd_512 : Cond.instanceMethod yX3_waysOver ∈ nt_tbl := nt_t3 224 rfl rfl
theorem wd_513 : Cond.code yX3_waysOver prog_5_method_2_code 4 (Option.some Jvm.ClassFile.FieldType.int) ∈ nt_tbl := nt_t3 225 rfl rfl
theorem wd_514 : Cond.instanceMethod yX3_search ∈ nt_tbl := nt_t3 228 rfl rfl
theorem wd_515 : Cond.code yX3_search prog_5_method_3_code 6 (Option.none : Option Jvm.ClassFile.FieldType) ∈ nt_tbl := nt_t3 229 rfl rfl
theorem wd_516 : Cond.methodLink RX3 43 yX3_prepare ∈ nt_tbl := nt_t3 230 rfl rfl
theorem wd_517 : Cond.instanceMethod yX3_prepare ∈ nt_tbl := nt_t3 232 rfl rfl
theorem wd_518 : Cond.code yX3_prepare prog_5_method_4_code 3 (Option.none : Option Jvm.ClassFile.FieldType) ∈ nt_tbl := nt_t3 233 rfl rfl
theorem wd_519 : Cond.methodLink RX3 75 yX3_awakeOf ∈ nt_tbl := nt_t3 235 rfl rfl
theorem wd_520 : Cond.instanceMethod yX3_awakeOf ∈ nt_tbl := nt_t3 237 rfl rfl
theorem wd_521 : Cond.code yX3_awakeOf prog_5_method_5_code 5 (Option.some Jvm.ClassFile.FieldType.int) ∈ nt_tbl := nt_t3 238 rfl rfl
theorem wd_522 : Cond.methodLink RX3 49 yX3_waysOver ∈ nt_tbl := nt_t4 1 rfl rfl
theorem wd_523 : Cond.methodLink RX3 53 Lib.Math.min.name ∈ nt_tbl := nt_t4 2 rfl rfl
theorem wd_524 : Cond.methodLink RX3 59 yX3_housesWithStory ∈ nt_tbl := nt_t4 3 rfl rfl
theorem wd_525 : Cond.instanceMethod yX3_housesWithStory ∈ nt_tbl := nt_t4 5 rfl rfl
theorem wd_526 : Cond.code yX3_housesWithStory prog_5_method_7_code 6 (Option.some Jvm.ClassFile.FieldType.int) ∈ nt_tbl := nt_t4 6 rfl rfl
theorem wd_527 : Cond.methodLink RX3 96 yX3_fillHouses ∈ nt_tbl := nt_t4 7 rfl rfl
theorem wd_528 : Cond.instanceMethod yX3_fillHouses ∈ nt_tbl := nt_t4 9 rfl rfl
theorem wd_529 : Cond.code yX3_fillHouses prog_5_method_8_code 4 (Option.none : Option Jvm.ClassFile.FieldType) ∈ nt_tbl := nt_t4 10 rfl rfl
theorem wd_530 : Cond.methodLink RX3 99 yJ6_bitCount_0f7a4 ∈ nt_tbl := nt_t4 11 rfl rfl
theorem wd_531 : Cond.methodLink RX3 62 arraycopyName ∈ nt_tbl := nt_t4 12 rfl rfl
theorem wd_532 : Cond.methodLink RX3 68 yX3_nextWay ∈ nt_tbl := nt_t4 13 rfl rfl
theorem wd_533 : Cond.instanceMethod yX3_nextWay ∈ nt_tbl := nt_t4 15 rfl rfl
theorem wd_534 : Cond.code yX3_nextWay prog_5_method_6_code 3 (Option.none : Option Jvm.ClassFile.FieldType) ∈ nt_tbl := nt_t4 16 rfl rfl
theorem wd_535 : Cond.methodLink RL 90 yX8_keepAway ∈ nt_tbl := nt_t4 17 rfl rfl
theorem wd_536 : Cond.instanceMethod yX8_keepAway ∈ nt_tbl := nt_t4 18 rfl rfl
theorem wd_537 : Cond.selects RX8 yX8_keepAway yX8_keepAway ∈ nt_tbl := nt_t4 19 rfl rfl
theorem wd_538 : Cond.code yX8_keepAway prog_1_method_20_code 6 (Option.some Jvm.ClassFile.FieldType.int) ∈ nt_tbl := nt_t4 20 rfl rfl
theorem wd_539 : Cond.methodLink RL 94 yX8_send ∈ nt_tbl := nt_t4 21 rfl rfl
theorem wd_540 : Cond.instanceMethod yX8_send ∈ nt_tbl := nt_t4 22 rfl rfl
theorem wd_541 : Cond.selects RX8 yX8_send yX8_send ∈ nt_tbl := nt_t4 23 rfl rfl
theorem wd_542 : Cond.code yX8_send prog_1_method_21_code 7 (Option.some Jvm.ClassFile.FieldType.int) ∈ nt_tbl := nt_t4 24 rfl rfl
theorem wd_543 : Cond.instanceMethod yX0_tellableBy ∈ nt_tbl := nt_t4 27 rfl rfl
theorem wd_544 : Cond.code yX0_tellableBy prog_2_method_13_code 2 (Option.some Jvm.ClassFile.FieldType.int) ∈ nt_tbl := nt_t4 28 rfl rfl
theorem wd_545 : Cond.methodLink RL 98 yX8_stranger ∈ nt_tbl := nt_t4 29 rfl rfl
theorem wd_546 : Cond.instanceMethod yX8_stranger ∈ nt_tbl := nt_t4 30 rfl rfl
theorem wd_547 : Cond.selects RX8 yX8_stranger yX8_stranger ∈ nt_tbl := nt_t4 31 rfl rfl
theorem wd_548 : Cond.code yX8_stranger prog_1_method_22_code 4 (Option.some Jvm.ClassFile.FieldType.int) ∈ nt_tbl := nt_t4 32 rfl rfl
theorem wd_549 : Cond.methodLink RL 102 yX8_left ∈ nt_tbl := nt_t4 34 rfl rfl
theorem wd_550 : Cond.instanceMethod yX8_left ∈ nt_tbl := nt_t4 35 rfl rfl
theorem wd_551 : Cond.selects RX8 yX8_left yX8_left ∈ nt_tbl := nt_t4 36 rfl rfl
theorem wd_552 : Cond.code yX8_left prog_1_method_23_code 3 (Option.some Jvm.ClassFile.FieldType.int) ∈ nt_tbl := nt_t4 37 rfl rfl
theorem wd_553 : Cond.methodLink RL 106 yX8_judge ∈ nt_tbl := nt_t4 39 rfl rfl
theorem wd_554 : Cond.instanceMethod yX8_judge ∈ nt_tbl := nt_t4 40 rfl rfl
theorem wd_555 : Cond.selects RX8 yX8_judge yX8_judge ∈ nt_tbl := nt_t4 41 rfl rfl
theorem wd_556 : Cond.code yX8_judge prog_1_method_24_code 5 (Option.some Jvm.ClassFile.FieldType.int) ∈ nt_tbl := nt_t4 42 rfl rfl
theorem wd_557 : Cond.instanceMethod yX4_has ∈ nt_tbl := nt_t4 45 rfl rfl
theorem wd_558 : Cond.code yX4_has prog_6_method_2_code 2 (Option.some Jvm.ClassFile.FieldType.boolean) ∈ nt_tbl := nt_t4 46 rfl rfl
theorem wd_559 : Cond.instanceMethod yX4_isMissing ∈ nt_tbl := nt_t4 50 rfl rfl
theorem wd_560 : Cond.code yX4_isMissing prog_6_method_3_code 2 (Option.some Jvm.ClassFile.FieldType.boolean) ∈ nt_tbl := nt_t4 51 rfl rfl
theorem wd_561 : Cond.instanceMethod yX4_at ∈ nt_tbl := nt_t4 54 rfl rfl
theorem wd_562 : Cond.code yX4_at prog_6_method_7_code 3 (Option.some Jvm.ClassFile.FieldType.int) ∈ nt_tbl := nt_t4 55 rfl rfl
theorem wd_563 : Cond.methodLink RL 110 yX8_drawn ∈ nt_tbl := nt_t4 56 rfl rfl
theorem wd_564 : Cond.instanceMethod yX8_drawn ∈ nt_tbl := nt_t4 57 rfl rfl
theorem wd_565 : Cond.selects RX8 yX8_drawn yX8_drawn ∈ nt_tbl := nt_t4 58 rfl rfl
theorem wd_566 : Cond.code yX8_drawn prog_1_method_25_code 8 (Option.some Jvm.ClassFile.FieldType.int) ∈ nt_tbl := nt_t4 59 rfl rfl
theorem wd_567 : Cond.constant RX8 234 (1103515245 : Int32) ∈ nt_tbl := nt_t4 60 rfl rfl
theorem wd_568 : Cond.methodLink RL 114 yX8_image ∈ nt_tbl := nt_t4 61 rfl rfl
theorem wd_569 : Cond.instanceMethod yX8_image ∈ nt_tbl := nt_t4 62 rfl rfl
theorem wd_570 : Cond.selects RX8 yX8_image yX8_image ∈ nt_tbl := nt_t4 63 rfl rfl
theorem wd_571 : Cond.code yX8_image prog_1_method_26_code 1 (Option.some Jvm.ClassFile.FieldType.int) ∈ nt_tbl := nt_t4 64 rfl rfl
theorem wd_572 : Cond.methodLink RL 118 yX8_back ∈ nt_tbl := nt_t4 65 rfl rfl
theorem wd_573 : Cond.instanceMethod yX8_back ∈ nt_tbl := nt_t4 66 rfl rfl
theorem wd_574 : Cond.selects RX8 yX8_back yX8_back ∈ nt_tbl := nt_t4 67 rfl rfl
theorem wd_575 : Cond.code yX8_back prog_1_method_27_code 1 (Option.some Jvm.ClassFile.FieldType.int) ∈ nt_tbl := nt_t4 68 rfl rfl
theorem wd_576 : Cond.methodLink RL 122 yX8_count ∈ nt_tbl := nt_t4 70 rfl rfl
theorem wd_577 : Cond.instanceMethod yX8_count ∈ nt_tbl := nt_t4 71 rfl rfl
theorem wd_578 : Cond.selects RX8 yX8_count yX8_count ∈ nt_tbl := nt_t4 72 rfl rfl
theorem wd_579 : Cond.code yX8_count prog_1_method_28_code 2 (Option.some Jvm.ClassFile.FieldType.int) ∈ nt_tbl := nt_t4 73 rfl rfl
theorem wd_580 : Cond.methodLink RL 126 yX8_sheet ∈ nt_tbl := nt_t4 74 rfl rfl
theorem wd_581 : Cond.instanceMethod yX8_sheet ∈ nt_tbl := nt_t4 75 rfl rfl
theorem wd_582 : Cond.selects RX8 yX8_sheet yX8_sheet ∈ nt_tbl := nt_t4 76 rfl rfl
theorem wd_583 : Cond.code yX8_sheet prog_1_method_29_code 4 (Option.some Jvm.ClassFile.FieldType.int) ∈ nt_tbl := nt_t4 77 rfl rfl
theorem wd_584 : Cond.instanceMethod yX4_lay ∈ nt_tbl := nt_t4 80 rfl rfl
theorem wd_585 : Cond.code yX4_lay prog_6_method_6_code 5 (Option.none : Option Jvm.ClassFile.FieldType) ∈ nt_tbl := nt_t4 81 rfl rfl
theorem wd_586 : Cond.methodLink RL 130 yX8_cell ∈ nt_tbl := nt_t4 82 rfl rfl
theorem wd_587 : Cond.instanceMethod yX8_cell ∈ nt_tbl := nt_t4 83 rfl rfl
theorem wd_588 : Cond.selects RX8 yX8_cell yX8_cell ∈ nt_tbl := nt_t4 84 rfl rfl
theorem wd_589 : Cond.code yX8_cell prog_1_method_30_code 4 (Option.some Jvm.ClassFile.FieldType.int) ∈ nt_tbl := nt_t4 85 rfl rfl
theorem wd_590 : Cond.instanceMethod yX4_reaches ∈ nt_tbl := nt_t4 88 rfl rfl
theorem wd_591 : Cond.code yX4_reaches prog_6_method_4_code 3 (Option.some Jvm.ClassFile.FieldType.boolean) ∈ nt_tbl := nt_t4 89 rfl rfl
theorem wd_592 : Cond.instanceMethod yX4_write ∈ nt_tbl := nt_t4 92 rfl rfl
theorem wd_593 : Cond.code yX4_write prog_6_method_8_code 5 (Option.none : Option Jvm.ClassFile.FieldType) ∈ nt_tbl := nt_t4 93 rfl rfl
theorem wd_594 : Cond.methodLink RL 134 yX8_copy ∈ nt_tbl := nt_t4 94 rfl rfl
theorem wd_595 : Cond.instanceMethod yX8_copy ∈ nt_tbl := nt_t4 95 rfl rfl
theorem wd_596 : Cond.selects RX8 yX8_copy yX8_copy ∈ nt_tbl := nt_t4 96 rfl rfl
theorem wd_597 : Cond.code yX8_copy prog_1_method_31_code 6 (Option.some Jvm.ClassFile.FieldType.int) ∈ nt_tbl := nt_t4 97 rfl rfl
theorem wd_598 : Cond.instanceMethod yX4_hasRun ∈ nt_tbl := nt_t4 100 rfl rfl
theorem wd_599 : Cond.code yX4_hasRun prog_6_method_5_code 4 (Option.some Jvm.ClassFile.FieldType.boolean) ∈ nt_tbl := nt_t4 101 rfl rfl
theorem wd_600 : Cond.instanceMethod yX4_carry ∈ nt_tbl := nt_t4 104 rfl rfl
theorem wd_601 : Cond.code yX4_carry prog_6_method_9_code 6 (Option.none : Option Jvm.ClassFile.FieldType) ∈ nt_tbl := nt_t4 105 rfl rfl
theorem wd_602 : Cond.methodLink RX4 25 arraycopyName ∈ nt_tbl := nt_t4 106 rfl rfl
theorem wd_603 : Cond.methodLink RL 139 yX8_people ∈ nt_tbl := nt_t4 107 rfl rfl
theorem wd_604 : Cond.instanceMethod yX8_people ∈ nt_tbl := nt_t4 108 rfl rfl
theorem wd_605 : Cond.selects RX8 yX8_people yX8_people ∈ nt_tbl := nt_t4 109 rfl rfl
theorem wd_606 : Cond.code yX8_people prog_1_method_32_code 8 (Option.some Jvm.ClassFile.FieldType.int) ∈ nt_tbl := nt_t4 110 rfl rfl
theorem wd_607 : Cond.methodLink RL 144 yX8_taken ∈ nt_tbl := nt_t4 111 rfl rfl
theorem wd_608 : Cond.instanceMethod yX8_taken ∈ nt_tbl := nt_t4 112 rfl rfl
theorem wd_609 : Cond.selects RX8 yX8_taken yX8_taken ∈ nt_tbl := nt_t4 113 rfl rfl
theorem wd_610 : Cond.code yX8_taken prog_1_method_33_code 3 (Option.some Jvm.ClassFile.FieldType.int) ∈ nt_tbl := nt_t4 114 rfl rfl
theorem wd_611 : Cond.instanceMethod yX5_isUnder ∈ nt_tbl := nt_t4 117 rfl rfl
theorem wd_612 : Cond.code yX5_isUnder prog_7_method_10_code 5 (Option.some Jvm.ClassFile.FieldType.boolean) ∈ nt_tbl := nt_t4 118 rfl rfl
theorem wd_613 : Cond.fieldLink RX5 46 "NotTwice$Shelf" "UNDER" "[I" ∈ nt_tbl := nt_t4 119 rfl rfl
theorem wd_614 : Cond.classLink RL 10 "NotTwiceModel" ∈ nt_tbl := nt_t4 121 rfl rfl
theorem wd_615 : Cond.instantiable RX9 51 ∈ nt_tbl := nt_t4 122 rfl rfl
theorem wd_616 : Cond.methodLink RL 12 yX9_init ∈ nt_tbl := nt_t4 123 rfl rfl
theorem wd_617 : Cond.instanceMethod yX9_init ∈ nt_tbl := nt_t4 124 rfl rfl
theorem wd_618 : Cond.code yX9_init prog_11_method_5_code 1 (Option.none : Option Jvm.ClassFile.FieldType) ∈ nt_tbl := nt_t4 125 rfl rfl
theorem wd_619 : Cond.methodLink RX9 7 objectInit ∈ nt_tbl := nt_t4 126 rfl rfl
theorem wd_620 : Cond.methodLink RX9 90 yX9_spell ∈ nt_tbl := nt_t4 127 rfl rfl
theorem wd_621 : Cond.instanceMethod yX9_spell ∈ nt_tbl := nt_t4 129 rfl rfl
theorem wd_622 : Cond.code yX9_spell prog_11_method_6_code 10 (Option.none : Option Jvm.ClassFile.FieldType) ∈ nt_tbl := nt_t4 130 rfl rfl
theorem wd_623 : Cond.fieldLink RX9 13 "NotTwiceModel" "texts" "[I" ∈ nt_tbl := nt_t4 131 rfl rfl
theorem wd_624 : Cond.fieldLink RX9 17 "NotTwiceModel" "textSize" "[I" ∈ nt_tbl := nt_t4 132 rfl rfl
theorem wd_625 : Cond.fieldLink RX9 94 "NotTwiceModel" "textCount" "I" ∈ nt_tbl := nt_t4 133 rfl rfl
theorem wd_626 : Cond.fieldLink RX9 265 "NotTwiceModel" "rule" "I" ∈ nt_tbl := nt_t4 134 rfl rfl
theorem wd_627 : Cond.fieldLink RX9 20 "NotTwiceModel" "tape" "[I" ∈ nt_tbl := nt_t4 135 rfl rfl
theorem wd_628 : Cond.fieldLink RX9 148 "NotTwiceModel" "taped" "I" ∈ nt_tbl := nt_t4 136 rfl rfl
theorem wd_629 : Cond.fieldLink RX9 23 "NotTwiceModel" "kinds" "[I" ∈ nt_tbl := nt_t4 137 rfl rfl
theorem wd_630 : Cond.fieldLink RX9 26 "NotTwiceModel" "worths" "[I" ∈ nt_tbl := nt_t4 138 rfl rfl
theorem wd_631 : Cond.fieldLink RX9 29 "NotTwiceModel" "numbers" "[I" ∈ nt_tbl := nt_t4 139 rfl rfl
theorem wd_632 : Cond.fieldLink RX9 32 "NotTwiceModel" "twins" "[I" ∈ nt_tbl := nt_t4 140 rfl rfl
theorem wd_633 : Cond.fieldLink RX9 97 "NotTwiceModel" "storyMany" "I" ∈ nt_tbl := nt_t4 141 rfl rfl
theorem wd_634 : Cond.fieldLink RX9 35 "NotTwiceModel" "ages" "[I" ∈ nt_tbl := nt_t4 142 rfl rfl
theorem wd_635 : Cond.fieldLink RX9 38 "NotTwiceModel" "tells" "[I" ∈ nt_tbl := nt_t4 143 rfl rfl
theorem wd_636 : Cond.fieldLink RX9 41 "NotTwiceModel" "heard" "[I" ∈ nt_tbl := nt_t4 144 rfl rfl
theorem wd_637 : Cond.fieldLink RX9 44 "NotTwiceModel" "houses" "[I" ∈ nt_tbl := nt_t4 145 rfl rfl
theorem wd_638 : Cond.fieldLink RX9 47 "NotTwiceModel" "since" "[I" ∈ nt_tbl := nt_t4 146 rfl rfl
theorem wd_639 : Cond.fieldLink RX9 104 "NotTwiceModel" "many" "I" ∈ nt_tbl := nt_t4 147 rfl rfl
theorem wd_640 : Cond.fieldLink RX9 132 "NotTwiceModel" "night" "I" ∈ nt_tbl := nt_t4 148 rfl rfl
theorem wd_641 : Cond.fieldLink RX9 207 "NotTwiceModel" "ofAge" "I" ∈ nt_tbl := nt_t4 149 rfl rfl
theorem wd_642 : Cond.fieldLink RX9 210 "NotTwiceModel" "ofWorth" "I" ∈ nt_tbl := nt_t4 150 rfl rfl
theorem wd_643 : Cond.fieldLink RX9 213 "NotTwiceModel" "ofHeard" "I" ∈ nt_tbl := nt_t4 151 rfl rfl
theorem wd_644 : Cond.fieldLink RX9 216 "NotTwiceModel" "ofMany" "I" ∈ nt_tbl := nt_t4 152 rfl rfl
theorem wd_645 : Cond.fieldLink RX9 219 "NotTwiceModel" "ofNight" "I" ∈ nt_tbl := nt_t4 153 rfl rfl
theorem wd_646 : Cond.fieldLink RX9 222 "NotTwiceModel" "ofOwn" "I" ∈ nt_tbl := nt_t4 154 rfl rfl
theorem wd_647 : Cond.fieldLink RX9 154 "NotTwiceModel" "from" "I" ∈ nt_tbl := nt_t4 155 rfl rfl
theorem wd_648 : Cond.fieldLink RX9 151 "NotTwiceModel" "size" "I" ∈ nt_tbl := nt_t4 156 rfl rfl
theorem wd_649 : Cond.fieldLink RX9 157 "NotTwiceModel" "here" "I" ∈ nt_tbl := nt_t4 157 rfl rfl
theorem wd_650 : Cond.fieldLink RX9 166 "NotTwiceModel" "token" "I" ∈ nt_tbl := nt_t4 158 rfl rfl
theorem wd_651 : Cond.fieldLink RX9 163 "NotTwiceModel" "tokenAt" "I" ∈ nt_tbl := nt_t4 159 rfl rfl
theorem wd_652 : Cond.fieldLink RX9 177 "NotTwiceModel" "tokenWorth" "J" ∈ nt_tbl := nt_t4 160 rfl rfl
theorem wd_653 : Cond.fieldLink RX9 194 "NotTwiceModel" "open" "I" ∈ nt_tbl := nt_t4 161 rfl rfl
theorem wd_654 : Cond.fieldLink RX9 183 "NotTwiceModel" "bad" "Z" ∈ nt_tbl := nt_t4 162 rfl rfl
theorem wd_655 : Cond.fieldLink RX9 187 "NotTwiceModel" "fault" "I" ∈ nt_tbl := nt_t4 163 rfl rfl
theorem wd_656 : Cond.fieldLink RX9 303 "NotTwiceModel" "bestWorth" "I" ∈ nt_tbl := nt_t4 164 rfl rfl
theorem wd_657 : Cond.fieldLink RX9 50 "NotTwiceModel" "heardWas" "[I" ∈ nt_tbl := nt_t4 165 rfl rfl
theorem wd_658 : Cond.fieldLink RX9 53 "NotTwiceModel" "housesWas" "[I" ∈ nt_tbl := nt_t4 166 rfl rfl
theorem wd_659 : Cond.fieldLink RX9 56 "NotTwiceModel" "sinceWas" "[I" ∈ nt_tbl := nt_t4 167 rfl rfl
theorem wd_660 : Cond.fieldLink RX9 312 "NotTwiceModel" "nightWas" "I" ∈ nt_tbl := nt_t4 168 rfl rfl
theorem wd_661 : Cond.fieldLink RX9 59 "NotTwiceModel" "knowersOf" "[I" ∈ nt_tbl := nt_t4 169 rfl rfl
theorem wd_662 : Cond.fieldLink RX9 62 "NotTwiceModel" "tiredOf" "[I" ∈ nt_tbl := nt_t4 170 rfl rfl
theorem wd_663 : Cond.fieldLink RX9 65 "NotTwiceModel" "heardKept" "[I" ∈ nt_tbl := nt_t4 171 rfl rfl
theorem wd_664 : Cond.fieldLink RX9 68 "NotTwiceModel" "housesKept" "[I" ∈ nt_tbl := nt_t4 172 rfl rfl
theorem wd_665 : Cond.fieldLink RX9 71 "NotTwiceModel" "sinceKept" "[I" ∈ nt_tbl := nt_t4 173 rfl rfl
theorem wd_666 : Cond.fieldLink RX9 74 "NotTwiceModel" "manyKept" "I" ∈ nt_tbl := nt_t4 174 rfl rfl
theorem wd_667 : Cond.fieldLink RX9 345 "NotTwiceModel" "nightKept" "I" ∈ nt_tbl := nt_t4 175 rfl rfl
theorem wd_668 : Cond.fieldLink RX9 348 "NotTwiceModel" "ruleKept" "I" ∈ nt_tbl := nt_t4 176 rfl rfl
theorem wd_669 : Cond.fieldLink RX9 77 "NotTwiceModel" "isThere" "[Z" ∈ nt_tbl := nt_t4 177 rfl rfl
theorem wd_670 : Cond.fieldLink RX9 81 "NotTwiceModel" "sorts" "[I" ∈ nt_tbl := nt_t4 178 rfl rfl
theorem wd_671 : Cond.fieldLink RX9 84 "NotTwiceModel" "sheetSize" "[I" ∈ nt_tbl := nt_t4 179 rfl rfl
theorem wd_672 : Cond.fieldLink RX9 87 "NotTwiceModel" "items" "[I" ∈ nt_tbl := nt_t4 180 rfl rfl
theorem wd_673 : Cond.lays "NotTwiceModel" "NotTwiceModel" "thrown" "I" ∈ nt_tbl := nt_t4 181 rfl rfl
theorem wd_674 : Cond.laysFinal "NotTwiceModel" "NotTwiceModel" "texts" "[I" ∈ nt_tbl := nt_t4 183 rfl rfl
theorem wd_675 : Cond.laysFinal "NotTwiceModel" "NotTwiceModel" "textSize" "[I" ∈ nt_tbl := nt_t4 185 rfl rfl
theorem wd_676 : Cond.lays "NotTwiceModel" "NotTwiceModel" "textCount" "I" ∈ nt_tbl := nt_t4 187 rfl rfl
theorem wd_677 : Cond.lays "NotTwiceModel" "NotTwiceModel" "rule" "I" ∈ nt_tbl := nt_t4 189 rfl rfl
theorem wd_678 : Cond.laysFinal "NotTwiceModel" "NotTwiceModel" "tape" "[I" ∈ nt_tbl := nt_t4 191 rfl rfl
theorem wd_679 : Cond.lays "NotTwiceModel" "NotTwiceModel" "taped" "I" ∈ nt_tbl := nt_t4 193 rfl rfl
theorem wd_680 : Cond.laysFinal "NotTwiceModel" "NotTwiceModel" "kinds" "[I" ∈ nt_tbl := nt_t4 195 rfl rfl
theorem wd_681 : Cond.laysFinal "NotTwiceModel" "NotTwiceModel" "worths" "[I" ∈ nt_tbl := nt_t4 197 rfl rfl
theorem wd_682 : Cond.laysFinal "NotTwiceModel" "NotTwiceModel" "numbers" "[I" ∈ nt_tbl := nt_t4 199 rfl rfl
theorem wd_683 : Cond.laysFinal "NotTwiceModel" "NotTwiceModel" "twins" "[I" ∈ nt_tbl := nt_t4 201 rfl rfl
theorem wd_684 : Cond.lays "NotTwiceModel" "NotTwiceModel" "storyMany" "I" ∈ nt_tbl := nt_t4 203 rfl rfl
theorem wd_685 : Cond.laysFinal "NotTwiceModel" "NotTwiceModel" "ages" "[I" ∈ nt_tbl := nt_t4 205 rfl rfl
theorem wd_686 : Cond.laysFinal "NotTwiceModel" "NotTwiceModel" "tells" "[I" ∈ nt_tbl := nt_t4 207 rfl rfl
theorem wd_687 : Cond.laysFinal "NotTwiceModel" "NotTwiceModel" "heard" "[I" ∈ nt_tbl := nt_t4 209 rfl rfl
theorem wd_688 : Cond.laysFinal "NotTwiceModel" "NotTwiceModel" "houses" "[I" ∈ nt_tbl := nt_t4 211 rfl rfl
theorem wd_689 : Cond.laysFinal "NotTwiceModel" "NotTwiceModel" "since" "[I" ∈ nt_tbl := nt_t4 213 rfl rfl
theorem wd_690 : Cond.lays "NotTwiceModel" "NotTwiceModel" "many" "I" ∈ nt_tbl := nt_t4 215 rfl rfl
theorem wd_691 : Cond.lays "NotTwiceModel" "NotTwiceModel" "night" "I" ∈ nt_tbl := nt_t4 217 rfl rfl
theorem wd_692 : Cond.lays "NotTwiceModel" "NotTwiceModel" "ofAge" "I" ∈ nt_tbl := nt_t4 219 rfl rfl
theorem wd_693 : Cond.lays "NotTwiceModel" "NotTwiceModel" "ofWorth" "I" ∈ nt_tbl := nt_t4 221 rfl rfl
theorem wd_694 : Cond.lays "NotTwiceModel" "NotTwiceModel" "ofHeard" "I" ∈ nt_tbl := nt_t4 223 rfl rfl
theorem wd_695 : Cond.lays "NotTwiceModel" "NotTwiceModel" "ofMany" "I" ∈ nt_tbl := nt_t4 225 rfl rfl
theorem wd_696 : Cond.lays "NotTwiceModel" "NotTwiceModel" "ofNight" "I" ∈ nt_tbl := nt_t4 227 rfl rfl
theorem wd_697 : Cond.lays "NotTwiceModel" "NotTwiceModel" "ofOwn" "I" ∈ nt_tbl := nt_t4 229 rfl rfl
theorem wd_698 : Cond.lays "NotTwiceModel" "NotTwiceModel" "from" "I" ∈ nt_tbl := nt_t4 231 rfl rfl
theorem wd_699 : Cond.lays "NotTwiceModel" "NotTwiceModel" "size" "I" ∈ nt_tbl := nt_t4 233 rfl rfl
theorem wd_700 : Cond.lays "NotTwiceModel" "NotTwiceModel" "here" "I" ∈ nt_tbl := nt_t4 235 rfl rfl
theorem wd_701 : Cond.lays "NotTwiceModel" "NotTwiceModel" "token" "I" ∈ nt_tbl := nt_t4 237 rfl rfl
theorem wd_702 : Cond.lays "NotTwiceModel" "NotTwiceModel" "tokenAt" "I" ∈ nt_tbl := nt_t4 239 rfl rfl
theorem wd_703 : Cond.lays "NotTwiceModel" "NotTwiceModel" "tokenWorth" "J" ∈ nt_tbl := nt_t5 1 rfl rfl
theorem wd_704 : Cond.lays "NotTwiceModel" "NotTwiceModel" "open" "I" ∈ nt_tbl := nt_t5 3 rfl rfl
theorem wd_705 : Cond.lays "NotTwiceModel" "NotTwiceModel" "bad" "Z" ∈ nt_tbl := nt_t5 5 rfl rfl
theorem wd_706 : Cond.lays "NotTwiceModel" "NotTwiceModel" "fault" "I" ∈ nt_tbl := nt_t5 7 rfl rfl
theorem wd_707 : Cond.lays "NotTwiceModel" "NotTwiceModel" "bestWorth" "I" ∈ nt_tbl := nt_t5 9 rfl rfl
theorem wd_708 : Cond.laysFinal "NotTwiceModel" "NotTwiceModel" "heardWas" "[I" ∈ nt_tbl := nt_t5 11 rfl rfl
theorem wd_709 : Cond.laysFinal "NotTwiceModel" "NotTwiceModel" "housesWas" "[I" ∈ nt_tbl := nt_t5 13 rfl rfl
theorem wd_710 : Cond.laysFinal "NotTwiceModel" "NotTwiceModel" "sinceWas" "[I" ∈ nt_tbl := nt_t5 15 rfl rfl
theorem wd_711 : Cond.lays "NotTwiceModel" "NotTwiceModel" "nightWas" "I" ∈ nt_tbl := nt_t5 17 rfl rfl
theorem wd_712 : Cond.laysFinal "NotTwiceModel" "NotTwiceModel" "knowersOf" "[I" ∈ nt_tbl := nt_t5 19 rfl rfl
theorem wd_713 : Cond.laysFinal "NotTwiceModel" "NotTwiceModel" "tiredOf" "[I" ∈ nt_tbl := nt_t5 21 rfl rfl
theorem wd_714 : Cond.laysFinal "NotTwiceModel" "NotTwiceModel" "heardKept" "[I" ∈ nt_tbl := nt_t5 23 rfl rfl
theorem wd_715 : Cond.laysFinal "NotTwiceModel" "NotTwiceModel" "housesKept" "[I" ∈ nt_tbl := nt_t5 25 rfl rfl
theorem wd_716 : Cond.laysFinal "NotTwiceModel" "NotTwiceModel" "sinceKept" "[I" ∈ nt_tbl := nt_t5 27 rfl rfl
theorem wd_717 : Cond.lays "NotTwiceModel" "NotTwiceModel" "manyKept" "I" ∈ nt_tbl := nt_t5 29 rfl rfl
theorem wd_718 : Cond.lays "NotTwiceModel" "NotTwiceModel" "nightKept" "I" ∈ nt_tbl := nt_t5 31 rfl rfl
theorem wd_719 : Cond.lays "NotTwiceModel" "NotTwiceModel" "ruleKept" "I" ∈ nt_tbl := nt_t5 33 rfl rfl
theorem wd_720 : Cond.laysFinal "NotTwiceModel" "NotTwiceModel" "isThere" "[Z" ∈ nt_tbl := nt_t5 35 rfl rfl
theorem wd_721 : Cond.laysFinal "NotTwiceModel" "NotTwiceModel" "sorts" "[I" ∈ nt_tbl := nt_t5 37 rfl rfl
theorem wd_722 : Cond.laysFinal "NotTwiceModel" "NotTwiceModel" "sheetSize" "[I" ∈ nt_tbl := nt_t5 39 rfl rfl
theorem wd_723 : Cond.laysFinal "NotTwiceModel" "NotTwiceModel" "items" "[I" ∈ nt_tbl := nt_t5 41 rfl rfl
theorem wd_724 : Cond.arrayClass Jvm.ClassFile.FieldType.boolean ∈ nt_tbl := nt_t5 44 rfl rfl
theorem wd_725 : Cond.methodLink RL 17 yX9_story ∈ nt_tbl := nt_t5 45 rfl rfl
theorem wd_726 : Cond.instanceMethod yX9_story ∈ nt_tbl := nt_t5 46 rfl rfl
theorem wd_727 : Cond.selects RX9 yX9_story yX9_story ∈ nt_tbl := nt_t5 47 rfl rfl
theorem wd_728 : Cond.code yX9_story prog_11_method_10_code 4 (Option.some Jvm.ClassFile.FieldType.int) ∈ nt_tbl := nt_t5 48 rfl rfl
theorem wd_729 : Cond.constantLong RX9 109 (5 : Int64) ∈ nt_tbl := nt_t5 49 rfl rfl
theorem wd_730 : Cond.methodLink RX9 100 yX9_in ∈ nt_tbl := nt_t5 50 rfl rfl
theorem wd_731 : Cond.static yX9_in ∈ nt_tbl := nt_t5 51 rfl rfl
theorem wd_732 : Cond.code yX9_in prog_11_method_2_code 6 (Option.some Jvm.ClassFile.FieldType.boolean) ∈ nt_tbl := nt_t5 52 rfl rfl
theorem wd_733 : Cond.constantLong RX9 111 (9 : Int64) ∈ nt_tbl := nt_t5 53 rfl rfl
theorem wd_734 : Cond.methodLink RL 22 yX9_twin ∈ nt_tbl := nt_t5 54 rfl rfl
theorem wd_735 : Cond.instanceMethod yX9_twin ∈ nt_tbl := nt_t5 55 rfl rfl
theorem wd_736 : Cond.selects RX9 yX9_twin yX9_twin ∈ nt_tbl := nt_t5 56 rfl rfl
theorem wd_737 : Cond.code yX9_twin prog_11_method_12_code 3 (Option.some Jvm.ClassFile.FieldType.int) ∈ nt_tbl := nt_t5 57 rfl rfl
theorem wd_738 : Cond.methodLink RX9 113 yX9_isStory ∈ nt_tbl := nt_t5 58 rfl rfl
theorem wd_739 : Cond.instanceMethod yX9_isStory ∈ nt_tbl := nt_t5 60 rfl rfl
theorem wd_740 : Cond.code yX9_isStory prog_11_method_7_code 2 (Option.some Jvm.ClassFile.FieldType.boolean) ∈ nt_tbl := nt_t5 61 rfl rfl
theorem wd_741 : Cond.methodLink RX9 117 yX9_parts ∈ nt_tbl := nt_t5 62 rfl rfl
theorem wd_742 : Cond.instanceMethod yX9_parts ∈ nt_tbl := nt_t5 64 rfl rfl
theorem wd_743 : Cond.code yX9_parts prog_11_method_11_code 2 (Option.none : Option Jvm.ClassFile.FieldType) ∈ nt_tbl := nt_t5 65 rfl rfl
theorem wd_744 : Cond.methodLink RL 26 yX9_person ∈ nt_tbl := nt_t5 66 rfl rfl
theorem wd_745 : Cond.instanceMethod yX9_person ∈ nt_tbl := nt_t5 67 rfl rfl
theorem wd_746 : Cond.selects RX9 yX9_person yX9_person ∈ nt_tbl := nt_t5 68 rfl rfl
theorem wd_747 : Cond.code yX9_person prog_11_method_13_code 3 (Option.some Jvm.ClassFile.FieldType.int) ∈ nt_tbl := nt_t5 69 rfl rfl
theorem wd_748 : Cond.constantLong RX9 121 (399 : Int64) ∈ nt_tbl := nt_t5 70 rfl rfl
theorem wd_749 : Cond.constantLong RX9 123 (255 : Int64) ∈ nt_tbl := nt_t5 71 rfl rfl
theorem wd_750 : Cond.methodLink RL 30 yX9_set ∈ nt_tbl := nt_t5 72 rfl rfl
theorem wd_751 : Cond.instanceMethod yX9_set ∈ nt_tbl := nt_t5 73 rfl rfl
theorem wd_752 : Cond.selects RX9 yX9_set yX9_set ∈ nt_tbl := nt_t5 74 rfl rfl
theorem wd_753 : Cond.code yX9_set prog_11_method_14_code 5 (Option.some Jvm.ClassFile.FieldType.int) ∈ nt_tbl := nt_t5 75 rfl rfl
theorem wd_754 : Cond.constantLong RX9 125 (2 : Int64) ∈ nt_tbl := nt_t5 76 rfl rfl
theorem wd_755 : Cond.methodLink RX9 127 yX9_isPerson ∈ nt_tbl := nt_t5 77 rfl rfl
theorem wd_756 : Cond.instanceMethod yX9_isPerson ∈ nt_tbl := nt_t5 79 rfl rfl
theorem wd_757 : Cond.code yX9_isPerson prog_11_method_8_code 2 (Option.some Jvm.ClassFile.FieldType.boolean) ∈ nt_tbl := nt_t5 80 rfl rfl
theorem wd_758 : Cond.constantLong RX9 107 (3 : Int64) ∈ nt_tbl := nt_t5 81 rfl rfl
theorem wd_759 : Cond.constantLong RX9 130 (99 : Int64) ∈ nt_tbl := nt_t5 82 rfl rfl
theorem wd_760 : Cond.methodLink RL 34 yX9_hears ∈ nt_tbl := nt_t5 83 rfl rfl
theorem wd_761 : Cond.instanceMethod yX9_hears ∈ nt_tbl := nt_t5 84 rfl rfl
theorem wd_762 : Cond.selects RX9 yX9_hears yX9_hears ∈ nt_tbl := nt_t5 85 rfl rfl
theorem wd_763 : Cond.code yX9_hears prog_11_method_15_code 5 (Option.some Jvm.ClassFile.FieldType.int) ∈ nt_tbl := nt_t5 86 rfl rfl
theorem wd_764 : Cond.methodLink RL 38 yX9_told ∈ nt_tbl := nt_t5 87 rfl rfl
theorem wd_765 : Cond.instanceMethod yX9_told ∈ nt_tbl := nt_t5 88 rfl rfl
theorem wd_766 : Cond.selects RX9 yX9_told yX9_told ∈ nt_tbl := nt_t5 89 rfl rfl
theorem wd_767 : Cond.code yX9_told prog_11_method_18_code 4 (Option.some Jvm.ClassFile.FieldType.int) ∈ nt_tbl := nt_t5 90 rfl rfl
theorem wd_768 : Cond.methodLink RX9 135 yX9_stays ∈ nt_tbl := nt_t5 91 rfl rfl
theorem wd_769 : Cond.instanceMethod yX9_stays ∈ nt_tbl := nt_t5 93 rfl rfl
theorem wd_770 : Cond.code yX9_stays prog_11_method_17_code 3 (Option.some Jvm.ClassFile.FieldType.int) ∈ nt_tbl := nt_t5 94 rfl rfl
theorem wd_771 : Cond.methodLink RX9 139 yX9_counts ∈ nt_tbl := nt_t5 95 rfl rfl
theorem wd_772 : Cond.instanceMethod yX9_counts ∈ nt_tbl := nt_t5 97 rfl rfl
theorem wd_773 : Cond.code yX9_counts prog_11_method_16_code 5 (Option.some Jvm.ClassFile.FieldType.int) ∈ nt_tbl := nt_t5 98 rfl rfl
theorem wd_774 : Cond.methodLink RL 42 yX9_one ∈ nt_tbl := nt_t5 99 rfl rfl
theorem wd_775 : Cond.instanceMethod yX9_one ∈ nt_tbl := nt_t5 100 rfl rfl
theorem wd_776 : Cond.selects RX9 yX9_one yX9_one ∈ nt_tbl := nt_t5 101 rfl rfl
theorem wd_777 : Cond.code yX9_one prog_11_method_20_code 3 (Option.some Jvm.ClassFile.FieldType.int) ∈ nt_tbl := nt_t5 102 rfl rfl
theorem wd_778 : Cond.constantLong RX9 143 (4 : Int64) ∈ nt_tbl := nt_t5 103 rfl rfl
theorem wd_779 : Cond.methodLink RX9 145 yX9_known ∈ nt_tbl := nt_t5 104 rfl rfl
theorem wd_780 : Cond.instanceMethod yX9_known ∈ nt_tbl := nt_t5 106 rfl rfl
theorem wd_781 : Cond.code yX9_known prog_11_method_19_code 4 (Option.some Jvm.ClassFile.FieldType.int) ∈ nt_tbl := nt_t5 107 rfl rfl
theorem wd_782 : Cond.methodLink RL 47 yX9_feed ∈ nt_tbl := nt_t5 108 rfl rfl
theorem wd_783 : Cond.instanceMethod yX9_feed ∈ nt_tbl := nt_t5 109 rfl rfl
theorem wd_784 : Cond.selects RX9 yX9_feed yX9_feed ∈ nt_tbl := nt_t5 110 rfl rfl
theorem wd_785 : Cond.code yX9_feed prog_11_method_21_code 2 (Option.some Jvm.ClassFile.FieldType.int) ∈ nt_tbl := nt_t5 111 rfl rfl
theorem wd_786 : Cond.methodLink RL 52 yX9_text ∈ nt_tbl := nt_t5 112 rfl rfl
theorem wd_787 : Cond.instanceMethod yX9_text ∈ nt_tbl := nt_t5 113 rfl rfl
theorem wd_788 : Cond.selects RX9 yX9_text yX9_text ∈ nt_tbl := nt_t5 114 rfl rfl
theorem wd_789 : Cond.code yX9_text prog_11_method_38_code 2 (Option.some Jvm.ClassFile.FieldType.int) ∈ nt_tbl := nt_t5 115 rfl rfl
theorem wd_790 : Cond.methodLink RX9 262 yX9_read ∈ nt_tbl := nt_t5 116 rfl rfl
theorem wd_791 : Cond.instanceMethod yX9_read ∈ nt_tbl := nt_t5 118 rfl rfl
theorem wd_792 : Cond.code yX9_read prog_11_method_37_code 6 (Option.some Jvm.ClassFile.FieldType.int) ∈ nt_tbl := nt_t5 119 rfl rfl
theorem wd_793 : Cond.methodLink RX9 200 yX9_next ∈ nt_tbl := nt_t5 120 rfl rfl
theorem wd_794 : Cond.instanceMethod yX9_next ∈ nt_tbl := nt_t5 122 rfl rfl
theorem wd_795 : Cond.code yX9_next prog_11_method_23_code 3 (Option.none : Option Jvm.ClassFile.FieldType) ∈ nt_tbl := nt_t5 123 rfl rfl
theorem wd_796 : Cond.methodLink RX9 160 yX9_byteAt ∈ nt_tbl := nt_t5 124 rfl rfl
theorem wd_797 : Cond.instanceMethod yX9_byteAt ∈ nt_tbl := nt_t5 126 rfl rfl
theorem wd_798 : Cond.code yX9_byteAt prog_11_method_22_code 2 (Option.some Jvm.ClassFile.FieldType.int) ∈ nt_tbl := nt_t5 127 rfl rfl
theorem wd_799 : Cond.constantLong RX9 169 (97 : Int64) ∈ nt_tbl := nt_t5 128 rfl rfl
theorem wd_800 : Cond.constantLong RX9 171 (122 : Int64) ∈ nt_tbl := nt_t5 129 rfl rfl
theorem wd_801 : Cond.constantLong RX9 173 (48 : Int64) ∈ nt_tbl := nt_t5 130 rfl rfl
theorem wd_802 : Cond.constantLong RX9 175 (57 : Int64) ∈ nt_tbl := nt_t5 131 rfl rfl
theorem wd_803 : Cond.constantLong RX9 181 (10 : Int64) ∈ nt_tbl := nt_t5 132 rfl rfl
theorem wd_804 : Cond.methodLink RX9 203 yX9_isWord ∈ nt_tbl := nt_t5 133 rfl rfl
theorem wd_805 : Cond.instanceMethod yX9_isWord ∈ nt_tbl := nt_t5 135 rfl rfl
theorem wd_806 : Cond.code yX9_isWord prog_11_method_26_code 9 (Option.some Jvm.ClassFile.FieldType.boolean) ∈ nt_tbl := nt_t5 136 rfl rfl
theorem wd_807 : Cond.methodLink RX9 190 yX9_isLetter ∈ nt_tbl := nt_t5 137 rfl rfl
theorem wd_808 : Cond.instanceMethod yX9_isLetter ∈ nt_tbl := nt_t5 139 rfl rfl
theorem wd_809 : Cond.code yX9_isLetter prog_11_method_25_code 3 (Option.some Jvm.ClassFile.FieldType.boolean) ∈ nt_tbl := nt_t5 140 rfl rfl
theorem wd_810 : Cond.methodLink RX9 258 yX9_part ∈ nt_tbl := nt_t5 141 rfl rfl
theorem wd_811 : Cond.instanceMethod yX9_part ∈ nt_tbl := nt_t5 143 rfl rfl
theorem wd_812 : Cond.code yX9_part prog_11_method_36_code 3 (Option.some Jvm.ClassFile.FieldType.int) ∈ nt_tbl := nt_t5 144 rfl rfl
theorem wd_813 : Cond.methodLink RX9 197 yX9_fail ∈ nt_tbl := nt_t5 145 rfl rfl
theorem wd_814 : Cond.instanceMethod yX9_fail ∈ nt_tbl := nt_t5 147 rfl rfl
theorem wd_815 : Cond.code yX9_fail prog_11_method_24_code 1 (Option.none : Option Jvm.ClassFile.FieldType) ∈ nt_tbl := nt_t5 148 rfl rfl
theorem wd_816 : Cond.methodLink RX9 236 yX9_either ∈ nt_tbl := nt_t5 149 rfl rfl
theorem wd_817 : Cond.instanceMethod yX9_either ∈ nt_tbl := nt_t5 151 rfl rfl
theorem wd_818 : Cond.code yX9_either prog_11_method_35_code 3 (Option.some Jvm.ClassFile.FieldType.int) ∈ nt_tbl := nt_t5 152 rfl rfl
theorem wd_819 : Cond.methodLink RX9 255 yX9_both ∈ nt_tbl := nt_t5 153 rfl rfl
theorem wd_820 : Cond.instanceMethod yX9_both ∈ nt_tbl := nt_t5 155 rfl rfl
theorem wd_821 : Cond.code yX9_both prog_11_method_34_code 3 (Option.some Jvm.ClassFile.FieldType.int) ∈ nt_tbl := nt_t5 156 rfl rfl
theorem wd_822 : Cond.methodLink RX9 247 yX9_not ∈ nt_tbl := nt_t5 157 rfl rfl
theorem wd_823 : Cond.instanceMethod yX9_not ∈ nt_tbl := nt_t5 159 rfl rfl
theorem wd_824 : Cond.code yX9_not prog_11_method_33_code 4 (Option.some Jvm.ClassFile.FieldType.int) ∈ nt_tbl := nt_t5 160 rfl rfl
theorem wd_825 : Cond.methodLink RX9 228 yX9_opens ∈ nt_tbl := nt_t5 161 rfl rfl
theorem wd_826 : Cond.instanceMethod yX9_opens ∈ nt_tbl := nt_t5 163 rfl rfl
theorem wd_827 : Cond.code yX9_opens prog_11_method_28_code 1 (Option.some Jvm.ClassFile.FieldType.boolean) ∈ nt_tbl := nt_t5 164 rfl rfl
theorem wd_828 : Cond.methodLink RX9 250 yX9_added ∈ nt_tbl := nt_t5 165 rfl rfl
theorem wd_829 : Cond.instanceMethod yX9_added ∈ nt_tbl := nt_t5 167 rfl rfl
theorem wd_830 : Cond.code yX9_added prog_11_method_32_code 4 (Option.some Jvm.ClassFile.FieldType.int) ∈ nt_tbl := nt_t5 168 rfl rfl
theorem wd_831 : Cond.methodLink RX9 242 yX9_term ∈ nt_tbl := nt_t5 169 rfl rfl
theorem wd_832 : Cond.instanceMethod yX9_term ∈ nt_tbl := nt_t5 171 rfl rfl
theorem wd_833 : Cond.code yX9_term prog_11_method_31_code 2 (Option.some Jvm.ClassFile.FieldType.int) ∈ nt_tbl := nt_t5 172 rfl rfl
theorem wd_834 : Cond.methodLink RX9 232 yX9_atom ∈ nt_tbl := nt_t5 173 rfl rfl
theorem wd_835 : Cond.instanceMethod yX9_atom ∈ nt_tbl := nt_t5 175 rfl rfl
theorem wd_836 : Cond.code yX9_atom prog_11_method_30_code 2 (Option.some Jvm.ClassFile.FieldType.int) ∈ nt_tbl := nt_t5 176 rfl rfl
theorem wd_837 : Cond.methodLink RX9 225 yX9_isSign ∈ nt_tbl := nt_t5 177 rfl rfl
theorem wd_838 : Cond.instanceMethod yX9_isSign ∈ nt_tbl := nt_t5 179 rfl rfl
theorem wd_839 : Cond.code yX9_isSign prog_11_method_27_code 2 (Option.some Jvm.ClassFile.FieldType.boolean) ∈ nt_tbl := nt_t5 180 rfl rfl
theorem wd_840 : Cond.methodLink RX9 239 yX9_name ∈ nt_tbl := nt_t5 181 rfl rfl
theorem wd_841 : Cond.instanceMethod yX9_name ∈ nt_tbl := nt_t5 183 rfl rfl
theorem wd_842 : Cond.code yX9_name prog_11_method_29_code 1 (Option.some Jvm.ClassFile.FieldType.int) ∈ nt_tbl := nt_t5 184 rfl rfl
theorem wd_843 : Cond.constantLong RX9 245 (43 : Int64) ∈ nt_tbl := nt_t5 185 rfl rfl
theorem wd_844 : Cond.constantLong RX9 253 (60 : Int64) ∈ nt_tbl := nt_t5 186 rfl rfl
theorem wd_845 : Cond.methodLink RL 56 yX9_force ∈ nt_tbl := nt_t5 187 rfl rfl
theorem wd_846 : Cond.instanceMethod yX9_force ∈ nt_tbl := nt_t5 188 rfl rfl
theorem wd_847 : Cond.selects RX9 yX9_force yX9_force ∈ nt_tbl := nt_t5 189 rfl rfl
theorem wd_848 : Cond.code yX9_force prog_11_method_39_code 3 (Option.some Jvm.ClassFile.FieldType.int) ∈ nt_tbl := nt_t5 190 rfl rfl
theorem wd_849 : Cond.methodLink RL 60 yX9_may ∈ nt_tbl := nt_t5 191 rfl rfl
theorem wd_850 : Cond.instanceMethod yX9_may ∈ nt_tbl := nt_t5 192 rfl rfl
theorem wd_851 : Cond.selects RX9 yX9_may yX9_may ∈ nt_tbl := nt_t5 193 rfl rfl
theorem wd_852 : Cond.code yX9_may prog_11_method_46_code 2 (Option.some Jvm.ClassFile.FieldType.int) ∈ nt_tbl := nt_t5 194 rfl rfl
theorem wd_853 : Cond.methodLink RX9 288 yX9_isHouse ∈ nt_tbl := nt_t5 195 rfl rfl
theorem wd_854 : Cond.static yX9_isHouse ∈ nt_tbl := nt_t5 196 rfl rfl
theorem wd_855 : Cond.code yX9_isHouse prog_11_method_9_code 1 (Option.some Jvm.ClassFile.FieldType.boolean) ∈ nt_tbl := nt_t5 197 rfl rfl
theorem wd_856 : Cond.methodLink RX9 291 yX9_allMay ∈ nt_tbl := nt_t5 198 rfl rfl
theorem wd_857 : Cond.instanceMethod yX9_allMay ∈ nt_tbl := nt_t5 200 rfl rfl
theorem wd_858 : Cond.code yX9_allMay prog_11_method_45_code 4 (Option.some Jvm.ClassFile.FieldType.int) ∈ nt_tbl := nt_t5 201 rfl rfl
theorem wd_859 : Cond.methodLink RX9 285 yX9_teller ∈ nt_tbl := nt_t5 202 rfl rfl
theorem wd_860 : Cond.instanceMethod yX9_teller ∈ nt_tbl := nt_t5 204 rfl rfl
theorem wd_861 : Cond.code yX9_teller prog_11_method_44_code 5 (Option.some Jvm.ClassFile.FieldType.int) ∈ nt_tbl := nt_t5 205 rfl rfl
theorem wd_862 : Cond.methodLink RX9 278 yX9_sitting ∈ nt_tbl := nt_t5 206 rfl rfl
theorem wd_863 : Cond.instanceMethod yX9_sitting ∈ nt_tbl := nt_t5 208 rfl rfl
theorem wd_864 : Cond.code yX9_sitting prog_11_method_41_code 4 (Option.some Jvm.ClassFile.FieldType.int) ∈ nt_tbl := nt_t5 209 rfl rfl
theorem wd_865 : Cond.methodLink RX9 281 yX9_mayTell ∈ nt_tbl := nt_t5 210 rfl rfl
theorem wd_866 : Cond.instanceMethod yX9_mayTell ∈ nt_tbl := nt_t5 212 rfl rfl
theorem wd_867 : Cond.code yX9_mayTell prog_11_method_43_code 5 (Option.some Jvm.ClassFile.FieldType.boolean) ∈ nt_tbl := nt_t5 213 rfl rfl
theorem wd_868 : Cond.methodLink RX9 271 yX9_knowers ∈ nt_tbl := nt_t5 214 rfl rfl
theorem wd_869 : Cond.instanceMethod yX9_knowers ∈ nt_tbl := nt_t5 216 rfl rfl
theorem wd_870 : Cond.code yX9_knowers prog_11_method_42_code 4 (Option.some Jvm.ClassFile.FieldType.int) ∈ nt_tbl := nt_t5 217 rfl rfl
theorem wd_871 : Cond.methodLink RX9 268 yX9_bitsOf ∈ nt_tbl := nt_t5 218 rfl rfl
theorem wd_872 : Cond.static yX9_bitsOf ∈ nt_tbl := nt_t5 219 rfl rfl
theorem wd_873 : Cond.code yX9_bitsOf prog_11_method_4_code 3 (Option.some Jvm.ClassFile.FieldType.int) ∈ nt_tbl := nt_t5 220 rfl rfl
theorem wd_874 : Cond.methodLink RX9 274 yX9_says ∈ nt_tbl := nt_t5 221 rfl rfl
theorem wd_875 : Cond.instanceMethod yX9_says ∈ nt_tbl := nt_t5 223 rfl rfl
theorem wd_876 : Cond.code yX9_says prog_11_method_40_code 5 (Option.some Jvm.ClassFile.FieldType.int) ∈ nt_tbl := nt_t5 224 rfl rfl
theorem wd_877 : Cond.methodLink RL 64 yX9_by ∈ nt_tbl := nt_t5 225 rfl rfl
theorem wd_878 : Cond.instanceMethod yX9_by ∈ nt_tbl := nt_t5 226 rfl rfl
theorem wd_879 : Cond.selects RX9 yX9_by yX9_by ∈ nt_tbl := nt_t5 227 rfl rfl
theorem wd_880 : Cond.code yX9_by prog_11_method_47_code 3 (Option.some Jvm.ClassFile.FieldType.int) ∈ nt_tbl := nt_t5 228 rfl rfl
theorem wd_881 : Cond.methodLink RL 69 yX9_worth ∈ nt_tbl := nt_t5 229 rfl rfl
theorem wd_882 : Cond.instanceMethod yX9_worth ∈ nt_tbl := nt_t5 230 rfl rfl
theorem wd_883 : Cond.selects RX9 yX9_worth yX9_worth ∈ nt_tbl := nt_t5 231 rfl rfl
theorem wd_884 : Cond.code yX9_worth prog_11_method_49_code 4 (Option.some Jvm.ClassFile.FieldType.long) ∈ nt_tbl := nt_t5 232 rfl rfl
theorem wd_885 : Cond.constantLong RX9 298 (-4611686018427387904 : Int64) ∈ nt_tbl := nt_t5 233 rfl rfl
theorem wd_886 : Cond.methodLink RX9 300 yX9_worthBy ∈ nt_tbl := nt_t5 234 rfl rfl
theorem wd_887 : Cond.instanceMethod yX9_worthBy ∈ nt_tbl := nt_t5 236 rfl rfl
theorem wd_888 : Cond.code yX9_worthBy prog_11_method_48_code 7 (Option.some Jvm.ClassFile.FieldType.int) ∈ nt_tbl := nt_t5 237 rfl rfl
theorem wd_889 : Cond.methodLink RX9 294 yX9_within ∈ nt_tbl := nt_t5 238 rfl rfl
theorem wd_890 : Cond.static yX9_within ∈ nt_tbl := nt_t5 239 rfl rfl
theorem wd_891 : Cond.code yX9_within prog_11_method_3_code 3 (Option.some Jvm.ClassFile.FieldType.int) ∈ nt_tbl := nt_t6 0 rfl rfl
theorem wd_892 : Cond.methodLink RL 73 yX9_most ∈ nt_tbl := nt_t6 1 rfl rfl
theorem wd_893 : Cond.instanceMethod yX9_most ∈ nt_tbl := nt_t6 2 rfl rfl
theorem wd_894 : Cond.selects RX9 yX9_most yX9_most ∈ nt_tbl := nt_t6 3 rfl rfl
theorem wd_895 : Cond.code yX9_most prog_11_method_51_code 4 (Option.some Jvm.ClassFile.FieldType.long) ∈ nt_tbl := nt_t6 4 rfl rfl
theorem wd_896 : Cond.methodLink RX9 306 yX9_best ∈ nt_tbl := nt_t6 5 rfl rfl
theorem wd_897 : Cond.instanceMethod yX9_best ∈ nt_tbl := nt_t6 7 rfl rfl
theorem wd_898 : Cond.code yX9_best prog_11_method_50_code 6 (Option.some Jvm.ClassFile.FieldType.int) ∈ nt_tbl := nt_t6 8 rfl rfl
theorem wd_899 : Cond.methodLink RL 77 yX9_tell ∈ nt_tbl := nt_t6 9 rfl rfl
theorem wd_900 : Cond.instanceMethod yX9_tell ∈ nt_tbl := nt_t6 10 rfl rfl
theorem wd_901 : Cond.selects RX9 yX9_tell yX9_tell ∈ nt_tbl := nt_t6 11 rfl rfl
theorem wd_902 : Cond.code yX9_tell prog_11_method_53_code 4 (Option.some Jvm.ClassFile.FieldType.int) ∈ nt_tbl := nt_t6 12 rfl rfl
theorem wd_903 : Cond.methodLink RX9 309 yX9_tellIn ∈ nt_tbl := nt_t6 13 rfl rfl
theorem wd_904 : Cond.instanceMethod yX9_tellIn ∈ nt_tbl := nt_t6 15 rfl rfl
theorem wd_905 : Cond.code yX9_tellIn prog_11_method_52_code 6 (Option.some Jvm.ClassFile.FieldType.int) ∈ nt_tbl := nt_t6 16 rfl rfl
theorem wd_906 : Cond.methodLink RL 81 yX9_pass ∈ nt_tbl := nt_t6 17 rfl rfl
theorem wd_907 : Cond.instanceMethod yX9_pass ∈ nt_tbl := nt_t6 18 rfl rfl
theorem wd_908 : Cond.selects RX9 yX9_pass yX9_pass ∈ nt_tbl := nt_t6 19 rfl rfl
theorem wd_909 : Cond.code yX9_pass prog_11_method_54_code 3 (Option.some Jvm.ClassFile.FieldType.int) ∈ nt_tbl := nt_t6 20 rfl rfl
theorem wd_910 : Cond.methodLink RL 85 yX9_goesOn ∈ nt_tbl := nt_t6 21 rfl rfl
theorem wd_911 : Cond.instanceMethod yX9_goesOn ∈ nt_tbl := nt_t6 22 rfl rfl
theorem wd_912 : Cond.selects RX9 yX9_goesOn yX9_goesOn ∈ nt_tbl := nt_t6 23 rfl rfl
theorem wd_913 : Cond.code yX9_goesOn prog_11_method_58_code 5 (Option.some Jvm.ClassFile.FieldType.int) ∈ nt_tbl := nt_t6 24 rfl rfl
theorem wd_914 : Cond.methodLink RX9 318 yX9_laysAside ∈ nt_tbl := nt_t6 25 rfl rfl
theorem wd_915 : Cond.instanceMethod yX9_laysAside ∈ nt_tbl := nt_t6 27 rfl rfl
theorem wd_916 : Cond.code yX9_laysAside prog_11_method_55_code 2 (Option.none : Option Jvm.ClassFile.FieldType) ∈ nt_tbl := nt_t6 28 rfl rfl
theorem wd_917 : Cond.methodLink RX9 321 yX9_canAll ∈ nt_tbl := nt_t6 29 rfl rfl
theorem wd_918 : Cond.instanceMethod yX9_canAll ∈ nt_tbl := nt_t6 31 rfl rfl
theorem wd_919 : Cond.code yX9_canAll prog_11_method_57_code 6 (Option.some Jvm.ClassFile.FieldType.boolean) ∈ nt_tbl := nt_t6 32 rfl rfl
theorem wd_920 : Cond.methodLink RX9 315 yX9_laysBack ∈ nt_tbl := nt_t6 33 rfl rfl
theorem wd_921 : Cond.instanceMethod yX9_laysBack ∈ nt_tbl := nt_t6 35 rfl rfl
theorem wd_922 : Cond.code yX9_laysBack prog_11_method_56_code 2 (Option.none : Option Jvm.ClassFile.FieldType) ∈ nt_tbl := nt_t6 36 rfl rfl
theorem wd_923 : Cond.methodLink RL 89 yX9_spread ∈ nt_tbl := nt_t6 37 rfl rfl
theorem wd_924 : Cond.instanceMethod yX9_spread ∈ nt_tbl := nt_t6 38 rfl rfl
theorem wd_925 : Cond.selects RX9 yX9_spread yX9_spread ∈ nt_tbl := nt_t6 39 rfl rfl
theorem wd_926 : Cond.code yX9_spread prog_11_method_63_code 8 (Option.some Jvm.ClassFile.FieldType.int) ∈ nt_tbl := nt_t6 40 rfl rfl
theorem wd_927 : Cond.methodLink RX9 333 yX9_housesWith ∈ nt_tbl := nt_t6 41 rfl rfl
theorem wd_928 : Cond.instanceMethod yX9_housesWith ∈ nt_tbl := nt_t6 43 rfl rfl
theorem wd_929 : Cond.code yX9_housesWith prog_11_method_62_code 7 (Option.some Jvm.ClassFile.FieldType.int) ∈ nt_tbl := nt_t6 44 rfl rfl
theorem wd_930 : Cond.methodLink RX9 327 yX9_digit ∈ nt_tbl := nt_t6 45 rfl rfl
theorem wd_931 : Cond.static yX9_digit ∈ nt_tbl := nt_t6 46 rfl rfl
theorem wd_932 : Cond.code yX9_digit prog_11_method_61_code 5 (Option.some Jvm.ClassFile.FieldType.int) ∈ nt_tbl := nt_t6 47 rfl rfl
theorem wd_933 : Cond.methodLink RX9 330 yX9_anyMay ∈ nt_tbl := nt_t6 48 rfl rfl
theorem wd_934 : Cond.instanceMethod yX9_anyMay ∈ nt_tbl := nt_t6 50 rfl rfl
theorem wd_935 : Cond.code yX9_anyMay prog_11_method_60_code 6 (Option.some Jvm.ClassFile.FieldType.boolean) ∈ nt_tbl := nt_t6 51 rfl rfl
theorem wd_936 : Cond.methodLink RX9 324 yX9_isTired ∈ nt_tbl := nt_t6 52 rfl rfl
theorem wd_937 : Cond.instanceMethod yX9_isTired ∈ nt_tbl := nt_t6 54 rfl rfl
theorem wd_938 : Cond.code yX9_isTired prog_11_method_59_code 5 (Option.some Jvm.ClassFile.FieldType.boolean) ∈ nt_tbl := nt_t6 55 rfl rfl
theorem wd_939 : Cond.methodLink RL 93 yX9_keepAway ∈ nt_tbl := nt_t6 56 rfl rfl
theorem wd_940 : Cond.instanceMethod yX9_keepAway ∈ nt_tbl := nt_t6 57 rfl rfl
theorem wd_941 : Cond.selects RX9 yX9_keepAway yX9_keepAway ∈ nt_tbl := nt_t6 58 rfl rfl
theorem wd_942 : Cond.code yX9_keepAway prog_11_method_64_code 6 (Option.some Jvm.ClassFile.FieldType.int) ∈ nt_tbl := nt_t6 59 rfl rfl
theorem wd_943 : Cond.methodLink RL 97 yX9_send ∈ nt_tbl := nt_t6 60 rfl rfl
theorem wd_944 : Cond.instanceMethod yX9_send ∈ nt_tbl := nt_t6 61 rfl rfl
theorem wd_945 : Cond.selects RX9 yX9_send yX9_send ∈ nt_tbl := nt_t6 62 rfl rfl
theorem wd_946 : Cond.code yX9_send prog_11_method_65_code 10 (Option.some Jvm.ClassFile.FieldType.int) ∈ nt_tbl := nt_t6 63 rfl rfl
theorem wd_947 : Cond.methodLink RL 101 yX9_stranger ∈ nt_tbl := nt_t6 64 rfl rfl
theorem wd_948 : Cond.instanceMethod yX9_stranger ∈ nt_tbl := nt_t6 65 rfl rfl
theorem wd_949 : Cond.selects RX9 yX9_stranger yX9_stranger ∈ nt_tbl := nt_t6 66 rfl rfl
theorem wd_950 : Cond.code yX9_stranger prog_11_method_66_code 6 (Option.some Jvm.ClassFile.FieldType.int) ∈ nt_tbl := nt_t6 67 rfl rfl
theorem wd_951 : Cond.methodLink RL 105 yX9_left ∈ nt_tbl := nt_t6 68 rfl rfl
theorem wd_952 : Cond.instanceMethod yX9_left ∈ nt_tbl := nt_t6 69 rfl rfl
theorem wd_953 : Cond.selects RX9 yX9_left yX9_left ∈ nt_tbl := nt_t6 70 rfl rfl
theorem wd_954 : Cond.code yX9_left prog_11_method_67_code 3 (Option.some Jvm.ClassFile.FieldType.int) ∈ nt_tbl := nt_t6 71 rfl rfl
theorem wd_955 : Cond.methodLink RL 109 yX9_judge ∈ nt_tbl := nt_t6 72 rfl rfl
theorem wd_956 : Cond.instanceMethod yX9_judge ∈ nt_tbl := nt_t6 73 rfl rfl
theorem wd_957 : Cond.selects RX9 yX9_judge yX9_judge ∈ nt_tbl := nt_t6 74 rfl rfl
theorem wd_958 : Cond.code yX9_judge prog_11_method_68_code 7 (Option.some Jvm.ClassFile.FieldType.int) ∈ nt_tbl := nt_t6 75 rfl rfl
theorem wd_959 : Cond.methodLink RX9 336 yX9_isSheet ∈ nt_tbl := nt_t6 76 rfl rfl
theorem wd_960 : Cond.static yX9_isSheet ∈ nt_tbl := nt_t6 77 rfl rfl
theorem wd_961 : Cond.code yX9_isSheet prog_11_method_73_code 1 (Option.some Jvm.ClassFile.FieldType.boolean) ∈ nt_tbl := nt_t6 78 rfl rfl
theorem wd_962 : Cond.methodLink RL 113 yX9_drawn ∈ nt_tbl := nt_t6 79 rfl rfl
theorem wd_963 : Cond.instanceMethod yX9_drawn ∈ nt_tbl := nt_t6 80 rfl rfl
theorem wd_964 : Cond.selects RX9 yX9_drawn yX9_drawn ∈ nt_tbl := nt_t6 81 rfl rfl
theorem wd_965 : Cond.code yX9_drawn prog_11_method_69_code 8 (Option.some Jvm.ClassFile.FieldType.int) ∈ nt_tbl := nt_t6 82 rfl rfl
theorem wd_966 : Cond.constantLong RX9 339 (40 : Int64) ∈ nt_tbl := nt_t6 83 rfl rfl
theorem wd_967 : Cond.constant RX9 341 (1103515245 : Int32) ∈ nt_tbl := nt_t6 84 rfl rfl
theorem wd_968 : Cond.methodLink RX9 342 yX9_pass ∈ nt_tbl := nt_t6 85 rfl rfl
theorem wd_969 : Cond.methodLink RL 117 yX9_image ∈ nt_tbl := nt_t6 86 rfl rfl
theorem wd_970 : Cond.instanceMethod yX9_image ∈ nt_tbl := nt_t6 87 rfl rfl
theorem wd_971 : Cond.selects RX9 yX9_image yX9_image ∈ nt_tbl := nt_t6 88 rfl rfl
theorem wd_972 : Cond.code yX9_image prog_11_method_70_code 2 (Option.some Jvm.ClassFile.FieldType.int) ∈ nt_tbl := nt_t6 89 rfl rfl
theorem wd_973 : Cond.methodLink RL 121 yX9_back ∈ nt_tbl := nt_t6 90 rfl rfl
theorem wd_974 : Cond.instanceMethod yX9_back ∈ nt_tbl := nt_t6 91 rfl rfl
theorem wd_975 : Cond.selects RX9 yX9_back yX9_back ∈ nt_tbl := nt_t6 92 rfl rfl
theorem wd_976 : Cond.code yX9_back prog_11_method_71_code 2 (Option.some Jvm.ClassFile.FieldType.int) ∈ nt_tbl := nt_t6 93 rfl rfl
theorem wd_977 : Cond.methodLink RL 125 yX9_count ∈ nt_tbl := nt_t6 94 rfl rfl
theorem wd_978 : Cond.instanceMethod yX9_count ∈ nt_tbl := nt_t6 95 rfl rfl
theorem wd_979 : Cond.selects RX9 yX9_count yX9_count ∈ nt_tbl := nt_t6 96 rfl rfl
theorem wd_980 : Cond.code yX9_count prog_11_method_72_code 2 (Option.some Jvm.ClassFile.FieldType.int) ∈ nt_tbl := nt_t6 97 rfl rfl
theorem wd_981 : Cond.methodLink RL 129 yX9_sheet ∈ nt_tbl := nt_t6 98 rfl rfl
theorem wd_982 : Cond.instanceMethod yX9_sheet ∈ nt_tbl := nt_t6 99 rfl rfl
theorem wd_983 : Cond.selects RX9 yX9_sheet yX9_sheet ∈ nt_tbl := nt_t6 100 rfl rfl
theorem wd_984 : Cond.code yX9_sheet prog_11_method_74_code 5 (Option.some Jvm.ClassFile.FieldType.int) ∈ nt_tbl := nt_t6 101 rfl rfl
theorem wd_985 : Cond.constantLong RX9 351 (-1 : Int64) ∈ nt_tbl := nt_t6 102 rfl rfl
theorem wd_986 : Cond.methodLink RL 133 yX9_cell ∈ nt_tbl := nt_t6 103 rfl rfl
theorem wd_987 : Cond.instanceMethod yX9_cell ∈ nt_tbl := nt_t6 104 rfl rfl
theorem wd_988 : Cond.selects RX9 yX9_cell yX9_cell ∈ nt_tbl := nt_t6 105 rfl rfl
theorem wd_989 : Cond.code yX9_cell prog_11_method_75_code 4 (Option.some Jvm.ClassFile.FieldType.int) ∈ nt_tbl := nt_t6 106 rfl rfl
theorem wd_990 : Cond.methodLink RL 138 yX9_copy ∈ nt_tbl := nt_t6 107 rfl rfl
theorem wd_991 : Cond.instanceMethod yX9_copy ∈ nt_tbl := nt_t6 108 rfl rfl
theorem wd_992 : Cond.selects RX9 yX9_copy yX9_copy ∈ nt_tbl := nt_t6 109 rfl rfl
theorem wd_993 : Cond.code yX9_copy prog_11_method_76_code 9 (Option.some Jvm.ClassFile.FieldType.int) ∈ nt_tbl := nt_t6 110 rfl rfl
theorem wd_994 : Cond.methodLink RL 143 yX9_people ∈ nt_tbl := nt_t6 111 rfl rfl
theorem wd_995 : Cond.instanceMethod yX9_people ∈ nt_tbl := nt_t6 112 rfl rfl
theorem wd_996 : Cond.selects RX9 yX9_people yX9_people ∈ nt_tbl := nt_t6 113 rfl rfl
theorem wd_997 : Cond.code yX9_people prog_11_method_77_code 8 (Option.some Jvm.ClassFile.FieldType.int) ∈ nt_tbl := nt_t6 114 rfl rfl
theorem wd_998 : Cond.constantLong RX9 353 (8 : Int64) ∈ nt_tbl := nt_t6 115 rfl rfl
theorem wd_999 : Cond.methodLink RX9 355 yX9_person ∈ nt_tbl := nt_t6 116 rfl rfl
theorem wd_1000 : Cond.methodLink RL 147 yX9_taken ∈ nt_tbl := nt_t6 117 rfl rfl
theorem wd_1001 : Cond.instanceMethod yX9_taken ∈ nt_tbl := nt_t6 118 rfl rfl
theorem wd_1002 : Cond.selects RX9 yX9_taken yX9_taken ∈ nt_tbl := nt_t6 119 rfl rfl
theorem wd_1003 : Cond.code yX9_taken prog_11_method_79_code 4 (Option.some Jvm.ClassFile.FieldType.int) ∈ nt_tbl := nt_t6 120 rfl rfl
theorem wd_1004 : Cond.methodLink RX9 358 yX9_over ∈ nt_tbl := nt_t6 121 rfl rfl
theorem wd_1005 : Cond.static yX9_over ∈ nt_tbl := nt_t6 122 rfl rfl
theorem wd_1006 : Cond.code yX9_over prog_11_method_78_code 1 (Option.some Jvm.ClassFile.FieldType.int) ∈ nt_tbl := nt_t6 123 rfl rfl
theorem wd_1007 : Cond.fieldLink RJ0 9 "java/lang/String" "value" "[B" ∈ nt_tbl := nt_t6 124 rfl rfl
theorem wd_1008 : Cond.fieldLink RJ0 15 "java/lang/String" "coder" "B" ∈ nt_tbl := nt_t6 125 rfl rfl
theorem wd_1009 : Cond.selects RX1 yX1_putFirstText yX1_putFirstText ∈ nt_tbl := nt_t0 0 rfl rfl
theorem wd_1010 : Cond.selects RX1 yX1_put yX1_put ∈ nt_tbl := nt_t0 1 rfl rfl
theorem wd_1011 : Cond.selects RX1 yX1_reads yX1_reads ∈ nt_tbl := nt_t0 2 rfl rfl
theorem wd_1012 : Cond.selects RX1 yX1_step yX1_step ∈ nt_tbl := nt_t0 3 rfl rfl
theorem wd_1013 : Cond.selects RX1 yX1_word yX1_word ∈ nt_tbl := nt_t0 4 rfl rfl
theorem wd_1014 : Cond.selects RX1 yX1_numeral yX1_numeral ∈ nt_tbl := nt_t0 5 rfl rfl
theorem wd_1015 : Cond.selects RX1 yX1_takes yX1_takes ∈ nt_tbl := nt_t0 6 rfl rfl
theorem wd_1016 : Cond.selects RX1 yX1_readsLevel yX1_readsLevel ∈ nt_tbl := nt_t0 7 rfl rfl
theorem wd_1017 : Cond.selects RX1 yX1_readsOpened yX1_readsOpened ∈ nt_tbl := nt_t0 8 rfl rfl
theorem wd_1018 : Cond.selects RX1 yX1_write yX1_write ∈ nt_tbl := nt_t0 9 rfl rfl
theorem wd_1019 : Cond.selects RX1 yX1_readsPlain yX1_readsPlain ∈ nt_tbl := nt_t0 10 rfl rfl
theorem wd_1020 : Cond.selects RX1 yX1_made yX1_made ∈ nt_tbl := nt_t0 11 rfl rfl
theorem wd_1021 : Cond.selects RX7 yX7_add yX7_add ∈ nt_tbl := nt_t0 12 rfl rfl
theorem wd_1022 : Cond.selects RX7 yX7_isFull yX7_isFull ∈ nt_tbl := nt_t0 13 rfl rfl
theorem wd_1023 : Cond.selects RX1 yX1_empty yX1_empty ∈ nt_tbl := nt_t0 14 rfl rfl
theorem wd_1024 : Cond.selects RX5 yX5_add yX5_add ∈ nt_tbl := nt_t0 15 rfl rfl
theorem wd_1025 : Cond.selects RX5 yX5_has yX5_has ∈ nt_tbl := nt_t0 16 rfl rfl
theorem wd_1026 : Cond.selects RX5 yX5_join yX5_join ∈ nt_tbl := nt_t0 17 rfl rfl
theorem wd_1027 : Cond.selects RX5 yX5_part yX5_part ∈ nt_tbl := nt_t0 18 rfl rfl
theorem wd_1028 : Cond.selects RX0 yX0_come yX0_come ∈ nt_tbl := nt_t0 19 rfl rfl
theorem wd_1029 : Cond.selects RX0 yX0_sit yX0_sit ∈ nt_tbl := nt_t0 20 rfl rfl
theorem wd_1030 : Cond.selects RX0 yX0_has yX0_has ∈ nt_tbl := nt_t0 21 rfl rfl
theorem wd_1031 : Cond.selects RX0 yX0_hear yX0_hear ∈ nt_tbl := nt_t0 22 rfl rfl
theorem wd_1032 : Cond.selects RX0 yX0_forget yX0_forget ∈ nt_tbl := nt_t0 23 rfl rfl
theorem wd_1033 : Cond.selects RX5 yX5_stays yX5_stays ∈ nt_tbl := nt_t0 24 rfl rfl
theorem wd_1034 : Cond.selects RX5 yX5_counts yX5_counts ∈ nt_tbl := nt_t0 25 rfl rfl
theorem wd_1035 : Cond.selects RX0 yX0_knows yX0_knows ∈ nt_tbl := nt_t0 26 rfl rfl
theorem wd_1036 : Cond.selects RX5 yX5_withTwins yX5_withTwins ∈ nt_tbl := nt_t0 27 rfl rfl
theorem wd_1037 : Cond.selects RX1 yX1_place yX1_place ∈ nt_tbl := nt_t0 28 rfl rfl
theorem wd_1038 : Cond.selects RX7 yX7_has yX7_has ∈ nt_tbl := nt_t0 29 rfl rfl
theorem wd_1039 : Cond.selects RX0 yX0_tellableIn yX0_tellableIn ∈ nt_tbl := nt_t0 30 rfl rfl
theorem wd_1040 : Cond.selects RX0 yX0_lookInto yX0_lookInto ∈ nt_tbl := nt_t0 31 rfl rfl
theorem wd_1041 : Cond.selects RX0 yX0_tellableOf yX0_tellableOf ∈ nt_tbl := nt_t0 32 rfl rfl
theorem wd_1042 : Cond.selects RX0 yX0_newToOthers yX0_newToOthers ∈ nt_tbl := nt_t0 33 rfl rfl
theorem wd_1043 : Cond.selects RX5 yX5_all yX5_all ∈ nt_tbl := nt_t0 34 rfl rfl
theorem wd_1044 : Cond.selects RX0 yX0_value yX0_value ∈ nt_tbl := nt_t0 35 rfl rfl
theorem wd_1045 : Cond.selects RX7 yX7_at yX7_at ∈ nt_tbl := nt_t0 36 rfl rfl
theorem wd_1046 : Cond.selects RX2 yX2_value yX2_value ∈ nt_tbl := nt_t0 37 rfl rfl
theorem wd_1047 : Cond.selects RX0 yX0_byWhom yX0_byWhom ∈ nt_tbl := nt_t0 38 rfl rfl
theorem wd_1048 : Cond.selects RX0 yX0_firstTeller yX0_firstTeller ∈ nt_tbl := nt_t0 39 rfl rfl
theorem wd_1049 : Cond.selects RX0 yX0_worthOf yX0_worthOf ∈ nt_tbl := nt_t0 40 rfl rfl
theorem wd_1050 : Cond.selects RX0 yX0_worthBy yX0_worthBy ∈ nt_tbl := nt_t0 41 rfl rfl
theorem wd_1051 : Cond.selects RX0 yX0_bestOf yX0_bestOf ∈ nt_tbl := nt_t0 42 rfl rfl
theorem wd_1052 : Cond.selects RX0 yX0_spend yX0_spend ∈ nt_tbl := nt_t0 43 rfl rfl
theorem wd_1053 : Cond.selects RX0 yX0_sleep yX0_sleep ∈ nt_tbl := nt_t0 44 rfl rfl
theorem wd_1054 : Cond.selects RX0 yX0_unheardIn yX0_unheardIn ∈ nt_tbl := nt_t0 45 rfl rfl
theorem wd_1055 : Cond.selects RX8 yX8_canTellAll yX8_canTellAll ∈ nt_tbl := nt_t0 46 rfl rfl
theorem wd_1056 : Cond.selects RX0 yX0_takeAll yX0_takeAll ∈ nt_tbl := nt_t0 47 rfl rfl
theorem wd_1057 : Cond.selects RX0 yX0_goBackTo yX0_goBackTo ∈ nt_tbl := nt_t0 48 rfl rfl
theorem wd_1058 : Cond.selects RX3 yX3_waysOver yX3_waysOver ∈ nt_tbl := nt_t0 49 rfl rfl
theorem wd_1059 : Cond.selects RX3 yX3_search yX3_search ∈ nt_tbl := nt_t0 50 rfl rfl
theorem wd_1060 : Cond.selects RX3 yX3_prepare yX3_prepare ∈ nt_tbl := nt_t0 51 rfl rfl
theorem wd_1061 : Cond.selects RX3 yX3_awakeOf yX3_awakeOf ∈ nt_tbl := nt_t0 52 rfl rfl
theorem wd_1062 : Cond.selects RX3 yX3_housesWithStory yX3_housesWithStory ∈ nt_tbl := nt_t0 53 rfl rfl
theorem wd_1063 : Cond.selects RX3 yX3_fillHouses yX3_fillHouses ∈ nt_tbl := nt_t0 54 rfl rfl
theorem wd_1064 : Cond.selects RX3 yX3_nextWay yX3_nextWay ∈ nt_tbl := nt_t0 55 rfl rfl
theorem wd_1065 : Cond.selects RX0 yX0_tellableBy yX0_tellableBy ∈ nt_tbl := nt_t0 56 rfl rfl
theorem wd_1066 : Cond.selects RX4 yX4_has yX4_has ∈ nt_tbl := nt_t0 57 rfl rfl
theorem wd_1067 : Cond.selects RX4 yX4_isMissing yX4_isMissing ∈ nt_tbl := nt_t0 58 rfl rfl
theorem wd_1068 : Cond.selects RX4 yX4_at yX4_at ∈ nt_tbl := nt_t0 59 rfl rfl
theorem wd_1069 : Cond.selects RX4 yX4_lay yX4_lay ∈ nt_tbl := nt_t0 60 rfl rfl
theorem wd_1070 : Cond.selects RX4 yX4_reaches yX4_reaches ∈ nt_tbl := nt_t0 61 rfl rfl
theorem wd_1071 : Cond.selects RX4 yX4_write yX4_write ∈ nt_tbl := nt_t0 62 rfl rfl
theorem wd_1072 : Cond.selects RX4 yX4_hasRun yX4_hasRun ∈ nt_tbl := nt_t0 63 rfl rfl
theorem wd_1073 : Cond.selects RX4 yX4_carry yX4_carry ∈ nt_tbl := nt_t0 64 rfl rfl
theorem wd_1074 : Cond.selects RX5 yX5_isUnder yX5_isUnder ∈ nt_tbl := nt_t0 65 rfl rfl
theorem wd_1075 : Cond.selects RX9 yX9_spell yX9_spell ∈ nt_tbl := nt_t0 66 rfl rfl
theorem wd_1076 : Cond.selects RX9 yX9_isStory yX9_isStory ∈ nt_tbl := nt_t0 67 rfl rfl
theorem wd_1077 : Cond.selects RX9 yX9_parts yX9_parts ∈ nt_tbl := nt_t0 68 rfl rfl
theorem wd_1078 : Cond.selects RX9 yX9_isPerson yX9_isPerson ∈ nt_tbl := nt_t0 69 rfl rfl
theorem wd_1079 : Cond.selects RX9 yX9_stays yX9_stays ∈ nt_tbl := nt_t0 70 rfl rfl
theorem wd_1080 : Cond.selects RX9 yX9_counts yX9_counts ∈ nt_tbl := nt_t0 71 rfl rfl
theorem wd_1081 : Cond.selects RX9 yX9_known yX9_known ∈ nt_tbl := nt_t0 72 rfl rfl
theorem wd_1082 : Cond.selects RX9 yX9_read yX9_read ∈ nt_tbl := nt_t0 73 rfl rfl
theorem wd_1083 : Cond.selects RX9 yX9_next yX9_next ∈ nt_tbl := nt_t0 74 rfl rfl
theorem wd_1084 : Cond.selects RX9 yX9_byteAt yX9_byteAt ∈ nt_tbl := nt_t0 75 rfl rfl
theorem wd_1085 : Cond.selects RX9 yX9_isWord yX9_isWord ∈ nt_tbl := nt_t0 76 rfl rfl
theorem wd_1086 : Cond.selects RX9 yX9_isLetter yX9_isLetter ∈ nt_tbl := nt_t0 77 rfl rfl
theorem wd_1087 : Cond.selects RX9 yX9_part yX9_part ∈ nt_tbl := nt_t0 78 rfl rfl
theorem wd_1088 : Cond.selects RX9 yX9_fail yX9_fail ∈ nt_tbl := nt_t0 79 rfl rfl
theorem wd_1089 : Cond.selects RX9 yX9_either yX9_either ∈ nt_tbl := nt_t0 80 rfl rfl
theorem wd_1090 : Cond.selects RX9 yX9_both yX9_both ∈ nt_tbl := nt_t0 81 rfl rfl
theorem wd_1091 : Cond.selects RX9 yX9_not yX9_not ∈ nt_tbl := nt_t0 82 rfl rfl
theorem wd_1092 : Cond.selects RX9 yX9_opens yX9_opens ∈ nt_tbl := nt_t0 83 rfl rfl
theorem wd_1093 : Cond.selects RX9 yX9_added yX9_added ∈ nt_tbl := nt_t0 84 rfl rfl
theorem wd_1094 : Cond.selects RX9 yX9_term yX9_term ∈ nt_tbl := nt_t0 85 rfl rfl
theorem wd_1095 : Cond.selects RX9 yX9_atom yX9_atom ∈ nt_tbl := nt_t0 86 rfl rfl
theorem wd_1096 : Cond.selects RX9 yX9_isSign yX9_isSign ∈ nt_tbl := nt_t0 87 rfl rfl
theorem wd_1097 : Cond.selects RX9 yX9_name yX9_name ∈ nt_tbl := nt_t0 88 rfl rfl
theorem wd_1098 : Cond.selects RX9 yX9_allMay yX9_allMay ∈ nt_tbl := nt_t0 89 rfl rfl
theorem wd_1099 : Cond.selects RX9 yX9_teller yX9_teller ∈ nt_tbl := nt_t0 90 rfl rfl
theorem wd_1100 : Cond.selects RX9 yX9_sitting yX9_sitting ∈ nt_tbl := nt_t0 91 rfl rfl
theorem wd_1101 : Cond.selects RX9 yX9_mayTell yX9_mayTell ∈ nt_tbl := nt_t0 92 rfl rfl
theorem wd_1102 : Cond.selects RX9 yX9_knowers yX9_knowers ∈ nt_tbl := nt_t0 93 rfl rfl
theorem wd_1103 : Cond.selects RX9 yX9_says yX9_says ∈ nt_tbl := nt_t0 94 rfl rfl
theorem wd_1104 : Cond.selects RX9 yX9_worthBy yX9_worthBy ∈ nt_tbl := nt_t0 95 rfl rfl
theorem wd_1105 : Cond.selects RX9 yX9_best yX9_best ∈ nt_tbl := nt_t0 96 rfl rfl
theorem wd_1106 : Cond.selects RX9 yX9_tellIn yX9_tellIn ∈ nt_tbl := nt_t0 97 rfl rfl
theorem wd_1107 : Cond.selects RX9 yX9_laysAside yX9_laysAside ∈ nt_tbl := nt_t0 98 rfl rfl
theorem wd_1108 : Cond.selects RX9 yX9_canAll yX9_canAll ∈ nt_tbl := nt_t0 99 rfl rfl
theorem wd_1109 : Cond.selects RX9 yX9_laysBack yX9_laysBack ∈ nt_tbl := nt_t0 100 rfl rfl
theorem wd_1110 : Cond.selects RX9 yX9_housesWith yX9_housesWith ∈ nt_tbl := nt_t0 101 rfl rfl
theorem wd_1111 : Cond.selects RX9 yX9_anyMay yX9_anyMay ∈ nt_tbl := nt_t0 102 rfl rfl
theorem wd_1112 : Cond.selects RX9 yX9_isTired yX9_isTired ∈ nt_tbl := nt_t0 103 rfl rfl
theorem inX0 : ∀ q ∈ u_ws RX0 TX0 14, q ∈ nt_tbl := by
  have h : ∀ q ∈ ([u_lay RX0 TX0 0, u_lay RX0 TX0 1, u_lay RX0 TX0 2, u_lay RX0 TX0 3, u_lay RX0 TX0 4, u_lay RX0 TX0 5, u_lay RX0 TX0 6, u_lay RX0 TX0 7, u_lay RX0 TX0 8, u_lay RX0 TX0 9, u_lay RX0 TX0 10, u_lay RX0 TX0 11, u_lay RX0 TX0 12, u_lay RX0 TX0 13] : List Cond), q ∈ nt_tbl := List.forall_mem_cons.mpr ⟨wd_264, List.forall_mem_cons.mpr ⟨wd_265, List.forall_mem_cons.mpr ⟨wd_266, List.forall_mem_cons.mpr ⟨wd_267, List.forall_mem_cons.mpr ⟨wd_268, List.forall_mem_cons.mpr ⟨wd_269, List.forall_mem_cons.mpr ⟨wd_270, List.forall_mem_cons.mpr ⟨wd_271, List.forall_mem_cons.mpr ⟨wd_272, List.forall_mem_cons.mpr ⟨wd_273, List.forall_mem_cons.mpr ⟨wd_274, List.forall_mem_cons.mpr ⟨wd_275, List.forall_mem_cons.mpr ⟨wd_276, List.forall_mem_cons.mpr ⟨wd_277, List.forall_mem_nil _⟩⟩⟩⟩⟩⟩⟩⟩⟩⟩⟩⟩⟩⟩
  exact h
theorem inX1 : ∀ q ∈ u_ws RX1 TX1 9, q ∈ nt_tbl := by
  have h : ∀ q ∈ ([u_lay RX1 TX1 0, u_lay RX1 TX1 1, u_lay RX1 TX1 2, u_lay RX1 TX1 3, u_lay RX1 TX1 4, u_lay RX1 TX1 5, u_lay RX1 TX1 6, u_lay RX1 TX1 7, u_lay RX1 TX1 8] : List Cond), q ∈ nt_tbl := List.forall_mem_cons.mpr ⟨wd_70, List.forall_mem_cons.mpr ⟨wd_71, List.forall_mem_cons.mpr ⟨wd_72, List.forall_mem_cons.mpr ⟨wd_73, List.forall_mem_cons.mpr ⟨wd_74, List.forall_mem_cons.mpr ⟨wd_75, List.forall_mem_cons.mpr ⟨wd_76, List.forall_mem_cons.mpr ⟨wd_77, List.forall_mem_cons.mpr ⟨wd_78, List.forall_mem_nil _⟩⟩⟩⟩⟩⟩⟩⟩⟩
  exact h
theorem inX2 : ∀ q ∈ u_ws RX2 TX2 3, q ∈ nt_tbl := by
  have h : ∀ q ∈ ([u_lay RX2 TX2 0, u_lay RX2 TX2 1, u_lay RX2 TX2 2] : List Cond), q ∈ nt_tbl := List.forall_mem_cons.mpr ⟨wd_234, List.forall_mem_cons.mpr ⟨wd_235, List.forall_mem_cons.mpr ⟨wd_236, List.forall_mem_nil _⟩⟩⟩
  exact h
theorem inX3 : ∀ q ∈ u_ws RX3 TX3 9, q ∈ nt_tbl := by
  have h : ∀ q ∈ ([u_lay RX3 TX3 0, u_lay RX3 TX3 1, u_lay RX3 TX3 2, u_lay RX3 TX3 3, u_lay RX3 TX3 4, u_lay RX3 TX3 5, u_lay RX3 TX3 6, u_lay RX3 TX3 7, u_lay RX3 TX3 8] : List Cond), q ∈ nt_tbl := List.forall_mem_cons.mpr ⟨wd_292, List.forall_mem_cons.mpr ⟨wd_293, List.forall_mem_cons.mpr ⟨wd_294, List.forall_mem_cons.mpr ⟨wd_295, List.forall_mem_cons.mpr ⟨wd_296, List.forall_mem_cons.mpr ⟨wd_297, List.forall_mem_cons.mpr ⟨wd_298, List.forall_mem_cons.mpr ⟨wd_299, List.forall_mem_cons.mpr ⟨wd_300, List.forall_mem_nil _⟩⟩⟩⟩⟩⟩⟩⟩⟩
  exact h
theorem inX4 : ∀ q ∈ u_ws RX4 TX4 3, q ∈ nt_tbl := by
  have h : ∀ q ∈ ([u_lay RX4 TX4 0, u_lay RX4 TX4 1, u_lay RX4 TX4 2] : List Cond), q ∈ nt_tbl := List.forall_mem_cons.mpr ⟨wd_309, List.forall_mem_cons.mpr ⟨wd_310, List.forall_mem_cons.mpr ⟨wd_311, List.forall_mem_nil _⟩⟩⟩
  exact h
theorem inX5 : ∀ q ∈ u_ws RX5 TX5 5, q ∈ nt_tbl := by
  have h : ∀ q ∈ ([u_lay RX5 TX5 0, u_lay RX5 TX5 1, u_lay RX5 TX5 2, u_lay RX5 TX5 3, u_lay RX5 TX5 4] : List Cond), q ∈ nt_tbl := List.forall_mem_cons.mpr ⟨wd_36, List.forall_mem_cons.mpr ⟨wd_37, List.forall_mem_cons.mpr ⟨wd_38, List.forall_mem_cons.mpr ⟨wd_39, List.forall_mem_cons.mpr ⟨wd_40, List.forall_mem_nil _⟩⟩⟩⟩⟩
  exact h
theorem inX7 : ∀ q ∈ u_ws RX7 TX7 4, q ∈ nt_tbl := by
  have h : ∀ q ∈ ([u_lay RX7 TX7 0, u_lay RX7 TX7 1, u_lay RX7 TX7 2, u_lay RX7 TX7 3] : List Cond), q ∈ nt_tbl := List.forall_mem_cons.mpr ⟨wd_52, List.forall_mem_cons.mpr ⟨wd_53, List.forall_mem_cons.mpr ⟨wd_54, List.forall_mem_cons.mpr ⟨wd_55, List.forall_mem_nil _⟩⟩⟩⟩
  exact h
theorem inX8 : ∀ q ∈ u_ws RX8 TX8 9, q ∈ nt_tbl := by
  have h : ∀ q ∈ ([u_lay RX8 TX8 0, u_lay RX8 TX8 1, u_lay RX8 TX8 2, u_lay RX8 TX8 3, u_lay RX8 TX8 4, u_lay RX8 TX8 5, u_lay RX8 TX8 6, u_lay RX8 TX8 7, u_lay RX8 TX8 8] : List Cond), q ∈ nt_tbl := List.forall_mem_cons.mpr ⟨wd_321, List.forall_mem_cons.mpr ⟨wd_322, List.forall_mem_cons.mpr ⟨wd_323, List.forall_mem_cons.mpr ⟨wd_324, List.forall_mem_cons.mpr ⟨wd_325, List.forall_mem_cons.mpr ⟨wd_326, List.forall_mem_cons.mpr ⟨wd_327, List.forall_mem_cons.mpr ⟨wd_328, List.forall_mem_cons.mpr ⟨wd_329, List.forall_mem_nil _⟩⟩⟩⟩⟩⟩⟩⟩⟩
  exact h
theorem inX9 : ∀ q ∈ u_ws RX9 TX9 51, q ∈ nt_tbl := by
  have h : ∀ q ∈ ([u_lay RX9 TX9 0, u_lay RX9 TX9 1, u_lay RX9 TX9 2, u_lay RX9 TX9 3, u_lay RX9 TX9 4, u_lay RX9 TX9 5, u_lay RX9 TX9 6, u_lay RX9 TX9 7, u_lay RX9 TX9 8, u_lay RX9 TX9 9, u_lay RX9 TX9 10, u_lay RX9 TX9 11, u_lay RX9 TX9 12, u_lay RX9 TX9 13, u_lay RX9 TX9 14, u_lay RX9 TX9 15, u_lay RX9 TX9 16, u_lay RX9 TX9 17, u_lay RX9 TX9 18, u_lay RX9 TX9 19, u_lay RX9 TX9 20, u_lay RX9 TX9 21, u_lay RX9 TX9 22, u_lay RX9 TX9 23, u_lay RX9 TX9 24, u_lay RX9 TX9 25, u_lay RX9 TX9 26, u_lay RX9 TX9 27, u_lay RX9 TX9 28, u_lay RX9 TX9 29, u_lay RX9 TX9 30, u_lay RX9 TX9 31, u_lay RX9 TX9 32, u_lay RX9 TX9 33, u_lay RX9 TX9 34, u_lay RX9 TX9 35, u_lay RX9 TX9 36, u_lay RX9 TX9 37, u_lay RX9 TX9 38, u_lay RX9 TX9 39, u_lay RX9 TX9 40, u_lay RX9 TX9 41, u_lay RX9 TX9 42, u_lay RX9 TX9 43, u_lay RX9 TX9 44, u_lay RX9 TX9 45, u_lay RX9 TX9 46, u_lay RX9 TX9 47, u_lay RX9 TX9 48, u_lay RX9 TX9 49, u_lay RX9 TX9 50] : List Cond), q ∈ nt_tbl := List.forall_mem_cons.mpr ⟨wd_673, List.forall_mem_cons.mpr ⟨wd_674, List.forall_mem_cons.mpr ⟨wd_675, List.forall_mem_cons.mpr ⟨wd_676, List.forall_mem_cons.mpr ⟨wd_677, List.forall_mem_cons.mpr ⟨wd_678, List.forall_mem_cons.mpr ⟨wd_679, List.forall_mem_cons.mpr ⟨wd_680, List.forall_mem_cons.mpr ⟨wd_681, List.forall_mem_cons.mpr ⟨wd_682, List.forall_mem_cons.mpr ⟨wd_683, List.forall_mem_cons.mpr ⟨wd_684, List.forall_mem_cons.mpr ⟨wd_685, List.forall_mem_cons.mpr ⟨wd_686, List.forall_mem_cons.mpr ⟨wd_687, List.forall_mem_cons.mpr ⟨wd_688, List.forall_mem_cons.mpr ⟨wd_689, List.forall_mem_cons.mpr ⟨wd_690, List.forall_mem_cons.mpr ⟨wd_691, List.forall_mem_cons.mpr ⟨wd_692, List.forall_mem_cons.mpr ⟨wd_693, List.forall_mem_cons.mpr ⟨wd_694, List.forall_mem_cons.mpr ⟨wd_695, List.forall_mem_cons.mpr ⟨wd_696, List.forall_mem_cons.mpr ⟨wd_697, List.forall_mem_cons.mpr ⟨wd_698, List.forall_mem_cons.mpr ⟨wd_699, List.forall_mem_cons.mpr ⟨wd_700, List.forall_mem_cons.mpr ⟨wd_701, List.forall_mem_cons.mpr ⟨wd_702, List.forall_mem_cons.mpr ⟨wd_703, List.forall_mem_cons.mpr ⟨wd_704, List.forall_mem_cons.mpr ⟨wd_705, List.forall_mem_cons.mpr ⟨wd_706, List.forall_mem_cons.mpr ⟨wd_707, List.forall_mem_cons.mpr ⟨wd_708, List.forall_mem_cons.mpr ⟨wd_709, List.forall_mem_cons.mpr ⟨wd_710, List.forall_mem_cons.mpr ⟨wd_711, List.forall_mem_cons.mpr ⟨wd_712, List.forall_mem_cons.mpr ⟨wd_713, List.forall_mem_cons.mpr ⟨wd_714, List.forall_mem_cons.mpr ⟨wd_715, List.forall_mem_cons.mpr ⟨wd_716, List.forall_mem_cons.mpr ⟨wd_717, List.forall_mem_cons.mpr ⟨wd_718, List.forall_mem_cons.mpr ⟨wd_719, List.forall_mem_cons.mpr ⟨wd_720, List.forall_mem_cons.mpr ⟨wd_721, List.forall_mem_cons.mpr ⟨wd_722, List.forall_mem_cons.mpr ⟨wd_723, List.forall_mem_nil _⟩⟩⟩⟩⟩⟩⟩⟩⟩⟩⟩⟩⟩⟩⟩⟩⟩⟩⟩⟩⟩⟩⟩⟩⟩⟩⟩⟩⟩⟩⟩⟩⟩⟩⟩⟩⟩⟩⟩⟩⟩⟩⟩⟩⟩⟩⟩⟩⟩⟩⟩
  exact h
end
section
/-! ===== the walking judgement: a world is numbered cells of ints; g k j is slot j of cell k ===== -/
abbrev nt_T : Type := Nat → Nat → Int32
/-- cell k's row becomes f -/
def nt_sc (g : nt_T) (k : Nat) (f : Nat → Int32) : nt_T := fun k' => if k' = k then f else g k'
/-- slot j of cell k becomes v -/
def nt_st (g : nt_T) (k j : Nat) (v : Int32) : nt_T := nt_sc g k (upd (g k) j v)
/-- the two halves of a long in a row of ints -/
def nt_hi (v : Int64) : Int32 := Int32.ofInt (v.toInt / 4294967296)
def nt_lo (v : Int64) : Int32 := Int32.ofInt (v.toInt % 4294967296 - 2147483648)
def nt_mk (h l : Int32) : Int64 := Int64.ofInt (h.toInt * 4294967296 + l.toInt + 2147483648)
theorem nt_mk_hl (v : Int64) : nt_mk (nt_hi v) (nt_lo v) = v := by
  have h1 := Int64.le_toInt v
  have h2 := Int64.toInt_lt v
  unfold nt_mk nt_hi nt_lo
  rw [Int32.toInt_ofInt_of_le (by omega) (by omega), Int32.toInt_ofInt_of_le (by omega) (by omega)]
  have e : v.toInt / 4294967296 * 4294967296 + (v.toInt % 4294967296 - 2147483648) + 2147483648 = v.toInt := by omega
  rw [e]
  exact Int64.ofInt_toInt v
/-- a world: the classes' numbers, the array classes, the addresses of constants, a static's value, how many cells, their addresses, their forms -/
abbrev nt_w : Type := va_G × List (ClassId × FieldType) × (Nat → Nat) × Value × Nat × (Nat → Nat) × (Nat → (Nat → Int32) → va_E)
abbrev nt_n (w : nt_w) : Nat := w.2.2.2.2.1
abbrev nt_a (w : nt_w) : Nat → Nat := w.2.2.2.2.2.1
abbrev nt_E (w : nt_w) : Nat → (Nat → Int32) → va_E := w.2.2.2.2.2.2
def nt_W (w : nt_w) (g : nt_T) : va_W := (List.range (nt_n w)).map (fun k => (nt_a w k, nt_E w k (g k)))
theorem nt_W_at {w : nt_w} {g : nt_T} {k : Nat} (h : k < nt_n w) : (nt_W w g)[k]? = some (nt_a w k, nt_E w k (g k)) := by simp [nt_W, h]
theorem nt_W_inv {w : nt_w} {g : nt_T} {k : Nat} {q : Nat × va_E} (h : (nt_W w g)[k]? = some q) : k < nt_n w ∧ q = (nt_a w k, nt_E w k (g k)) := by
  by_cases hk : k < nt_n w
  · rw [nt_W_at hk] at h
    exact ⟨hk, (Option.some.inj h).symm⟩
  · simp [nt_W, hk] at h
theorem nt_W_set {w : nt_w} {g : nt_T} {k : Nat} (h : k < nt_n w) (f : Nat → Int32) : (nt_W w g).set k (nt_a w k, nt_E w k f) = nt_W w (nt_sc g k f) := by
  apply List.ext_getElem?
  intro i
  rw [List.getElem?_set]
  by_cases hik : k = i
  · subst hik
    rw [if_pos rfl, nt_W_at h]
    simp [nt_W, h, nt_sc]
  · rw [if_neg hik]
    have e : nt_sc g k f i = g i := by simp [nt_sc, Ne.symm hik]
    by_cases hi : i < nt_n w
    · rw [nt_W_at hi, nt_W_at hi, e]
    · simp [nt_W, hi]
theorem nt_W_dom {w : nt_w} {g g' : nt_T} {A : Nat → Prop} (h : va_D A (nt_W w g)) : va_D A (nt_W w g') := by
  refine ⟨fun i j p q hi hj e => ?_, fun k q hk => ?_⟩
  · obtain ⟨hi1, rfl⟩ := nt_W_inv hi
    obtain ⟨hj1, rfl⟩ := nt_W_inv hj
    exact h.1 i j _ _ (nt_W_at hi1) (nt_W_at hj1) e
  · obtain ⟨hk1, rfl⟩ := nt_W_inv hk
    exact h.2 k (nt_a w k, nt_E w k (g k)) (nt_W_at hk1)
theorem nt_W_A {w : nt_w} {g g' : nt_T} {sz q : Nat} (h : va_A (nt_W w g) sz q) : va_A (nt_W w g') sz q := by
  rcases h with ⟨k, e, h⟩ | h
  · obtain ⟨hk1, hq⟩ := nt_W_inv h
    refine Or.inl ⟨k, nt_E w k (g' k), ?_⟩
    have hq1 : q = nt_a w k := congrArg Prod.fst hq
    rw [hq1]
    exact nt_W_at hk1
  · exact Or.inr h

def nt_nestF : List (String × Nat × String × String × String × String) := [("NotTwice", 125, "NotTwice$Shelf", "kind", "[I", "NotTwice"), ("NotTwice", 128, "NotTwice$Shelf", "worth", "[I", "NotTwice"), ("NotTwice", 131, "NotTwice$Shelf", "number", "[I", "NotTwice"), ("NotTwice", 134, "NotTwice$Shelf", "twin", "[I", "NotTwice"), ("NotTwice$Seating", 91, "NotTwice$Shelf", "size", "I", "NotTwice"), ("NotTwice$People", 91, "NotTwice$Shelf", "size", "I", "NotTwice"), ("NotTwice", 242, "NotTwice$Shelf", "size", "I", "NotTwice"), ("NotTwice$People", 137, "NotTwice$Texts", "names", "[I", "NotTwice"), ("NotTwice$People", 148, "NotTwice$Texts", "stack", "[I", "NotTwice"), ("NotTwice", 243, "NotTwice$Texts", "size", "I", "NotTwice"), ("NotTwice", 244, "NotTwice$Reader", "size", "I", "NotTwice"), ("NotTwice$Seating", 81, "NotTwice$People", "shelf", "LNotTwice$Shelf;", "NotTwice"), ("NotTwice", 102, "NotTwice$People", "house", "[I", "NotTwice"), ("NotTwice", 110, "NotTwice$People", "age", "[I", "NotTwice"), ("NotTwice$Seating", 78, "NotTwice$People", "tells", "[I", "NotTwice"), ("NotTwice", 113, "NotTwice$People", "tells", "[I", "NotTwice"), ("NotTwice", 116, "NotTwice$People", "heard", "[I", "NotTwice"), ("NotTwice$Seating", 37, "NotTwice$People", "size", "I", "NotTwice"), ("NotTwice", 212, "NotTwice$People", "size", "I", "NotTwice"), ("NotTwice", 182, "NotTwice$People", "night", "I", "NotTwice"), ("NotTwice", 157, "NotTwice$People", "rule", "I", "NotTwice"), ("NotTwice", 206, "NotTwice$Seating", "bestSeat", "[I", "NotTwice"), ("NotTwice", 203, "NotTwice$Seating", "best", "I", "NotTwice"), ("NotTwice", 254, "NotTwice$Sheets", "sort", "[I", "NotTwice"), ("NotTwice", 229, "NotTwice$Sheets", "size", "[I", "NotTwice")]
def nt_nestM : List (String × Nat × MethodName × String) := [("NotTwice", 11, ⟨"NotTwice$Shelf", "<init>", "()V"⟩, "NotTwice"), ("NotTwice", 18, ⟨"NotTwice$Texts", "<init>", "()V"⟩, "NotTwice"), ("NotTwice", 25, ⟨"NotTwice$Reader", "<init>", "()V"⟩, "NotTwice"), ("NotTwice", 30, ⟨"NotTwice$Reader", "putFirstText", "()V"⟩, "NotTwice"), ("NotTwice", 33, ⟨"NotTwice$Reader", "reads", "()Z"⟩, "NotTwice"), ("NotTwice", 37, ⟨"NotTwice$Reader", "made", "()LNotTwice$Rule;"⟩, "NotTwice"), ("NotTwice$Reader", 49, ⟨"NotTwice$Rule", "<init>", "([IIII)V"⟩, "NotTwice"), ("NotTwice", 41, ⟨"NotTwice$Texts", "add", "(LNotTwice$Rule;)I"⟩, "NotTwice"), ("NotTwice", 45, ⟨"NotTwice$Reader", "empty", "()V"⟩, "NotTwice"), ("NotTwice", 50, ⟨"NotTwice$People", "<init>", "(LNotTwice$Shelf;LNotTwice$Texts;)V"⟩, "NotTwice"), ("NotTwice", 65, ⟨"NotTwice$Seating", "<init>", "(LNotTwice$People;)V"⟩, "NotTwice"), ("NotTwice", 74, ⟨"NotTwice$Sheets", "<init>", "()V"⟩, "NotTwice"), ("NotTwice", 83, ⟨"NotTwice$Shelf", "add", "(III)I"⟩, "NotTwice"), ("NotTwice", 86, ⟨"NotTwice$Shelf", "has", "(I)Z"⟩, "NotTwice"), ("NotTwice$Shelf", 28, ⟨"NotTwice", "isBelow", "(II)Z"⟩, "NotTwice"), ("NotTwice", 90, ⟨"NotTwice$Shelf", "join", "(II)V"⟩, "NotTwice"), ("NotTwice", 94, ⟨"NotTwice$People", "come", "(II)I"⟩, "NotTwice"), ("NotTwice$People", 42, ⟨"NotTwice", "isBelow", "(II)Z"⟩, "NotTwice"), ("NotTwice", 98, ⟨"NotTwice$People", "has", "(I)Z"⟩, "NotTwice"), ("NotTwice", 119, ⟨"NotTwice$People", "hear", "(II)V"⟩, "NotTwice"), ("NotTwice", 122, ⟨"NotTwice$People", "forget", "(II)V"⟩, "NotTwice"), ("NotTwice", 137, ⟨"NotTwice$Shelf", "stays", "(I)I"⟩, "NotTwice"), ("NotTwice", 141, ⟨"NotTwice$Shelf", "counts", "(II)I"⟩, "NotTwice"), ("NotTwice", 144, ⟨"NotTwice$People", "knows", "(I)I"⟩, "NotTwice"), ("NotTwice$People", 66, ⟨"NotTwice$Shelf", "withTwins", "(I)I"⟩, "NotTwice"), ("NotTwice", 147, ⟨"NotTwice$Reader", "put", "(I)I"⟩, "NotTwice"), ("NotTwice", 149, ⟨"NotTwice$Texts", "isFull", "()Z"⟩, "NotTwice"), ("NotTwice", 152, ⟨"NotTwice$Reader", "place", "()I"⟩, "NotTwice"), ("NotTwice", 156, ⟨"NotTwice$Texts", "has", "(I)Z"⟩, "NotTwice"), ("NotTwice$Texts", 30, ⟨"NotTwice", "isBelow", "(II)Z"⟩, "NotTwice"), ("NotTwice", 161, ⟨"NotTwice$People", "tellableIn", "(I)I"⟩, "NotTwice"), ("NotTwice$People", 84, ⟨"NotTwice$Shelf", "all", "()I"⟩, "NotTwice"), ("NotTwice$People", 131, ⟨"NotTwice$Texts", "at", "(I)LNotTwice$Rule;"⟩, "NotTwice"), ("NotTwice$People", 140, ⟨"NotTwice$Shelf", "counts", "(II)I"⟩, "NotTwice"), ("NotTwice$People", 151, ⟨"NotTwice$Rule", "value", "(I[I[I)I"⟩, "NotTwice"), ("NotTwice", 164, ⟨"NotTwice$People", "byWhom", "(II)I"⟩, "NotTwice"), ("NotTwice", 167, ⟨"NotTwice$People", "worthOf", "(II)J"⟩, "NotTwice"), ("NotTwice", 173, ⟨"NotTwice$People", "bestOf", "(I)I"⟩, "NotTwice"), ("NotTwice", 176, ⟨"NotTwice$People", "spend", "(II)I"⟩, "NotTwice"), ("NotTwice", 179, ⟨"NotTwice$People", "sleep", "()V"⟩, "NotTwice"), ("NotTwice$People", 125, ⟨"NotTwice$Shelf", "stays", "(I)I"⟩, "NotTwice"), ("NotTwice", 185, ⟨"NotTwice$People", "unheardIn", "(I)I"⟩, "NotTwice"), ("NotTwice", 209, ⟨"NotTwice$People", "takeAll", "(LNotTwice$People;)V"⟩, "NotTwice"), ("NotTwice", 196, ⟨"NotTwice$Seating", "waysOver", "(I)I"⟩, "NotTwice"), ("NotTwice", 199, ⟨"NotTwice$Seating", "search", "(I)V"⟩, "NotTwice"), ("NotTwice$Seating", 72, ⟨"NotTwice$People", "knows", "(I)I"⟩, "NotTwice"), ("NotTwice$Seating", 85, ⟨"NotTwice$Shelf", "all", "()I"⟩, "NotTwice"), ("NotTwice$Seating", 92, ⟨"NotTwice$People", "value", "(IIII)I"⟩, "NotTwice"), ("NotTwice", 215, ⟨"NotTwice$People", "tellableBy", "(I)I"⟩, "NotTwice"), ("NotTwice", 218, ⟨"NotTwice$People", "sit", "(III)V"⟩, "NotTwice"), ("NotTwice", 222, ⟨"NotTwice$Shelf", "all", "()I"⟩, "NotTwice"), ("NotTwice", 225, ⟨"NotTwice$Sheets", "has", "(I)Z"⟩, "NotTwice"), ("NotTwice$Sheets", 21, ⟨"NotTwice", "isBelow", "(II)Z"⟩, "NotTwice"), ("NotTwice", 226, ⟨"NotTwice$Sheets", "isMissing", "(I)Z"⟩, "NotTwice"), ("NotTwice", 231, ⟨"NotTwice$Sheets", "at", "(II)I"⟩, "NotTwice"), ("NotTwice", 239, ⟨"NotTwice$People", "goBackTo", "(LNotTwice$People;)V"⟩, "NotTwice"), ("NotTwice", 245, ⟨"NotTwice$Sheets", "lay", "(III)V"⟩, "NotTwice"), ("NotTwice", 248, ⟨"NotTwice$Sheets", "reaches", "(II)Z"⟩, "NotTwice"), ("NotTwice", 251, ⟨"NotTwice$Sheets", "write", "(III)V"⟩, "NotTwice"), ("NotTwice", 257, ⟨"NotTwice$Sheets", "hasRun", "(III)Z"⟩, "NotTwice"), ("NotTwice", 261, ⟨"NotTwice$Sheets", "carry", "(IIIII)V"⟩, "NotTwice"), ("NotTwice", 265, ⟨"NotTwice$Shelf", "isUnder", "(II)Z"⟩, "NotTwice")]
theorem nt_nf0 : ("NotTwice", 125, "NotTwice$Shelf", "kind", "[I", "NotTwice") ∈ nt_nestF := List.mem_of_getElem? (i := 0) rfl
theorem nt_nf1 : ("NotTwice", 128, "NotTwice$Shelf", "worth", "[I", "NotTwice") ∈ nt_nestF := List.mem_of_getElem? (i := 1) rfl
theorem nt_nf2 : ("NotTwice", 131, "NotTwice$Shelf", "number", "[I", "NotTwice") ∈ nt_nestF := List.mem_of_getElem? (i := 2) rfl
theorem nt_nf3 : ("NotTwice", 134, "NotTwice$Shelf", "twin", "[I", "NotTwice") ∈ nt_nestF := List.mem_of_getElem? (i := 3) rfl
theorem nt_nf4 : ("NotTwice$Seating", 91, "NotTwice$Shelf", "size", "I", "NotTwice") ∈ nt_nestF := List.mem_of_getElem? (i := 4) rfl
theorem nt_nf5 : ("NotTwice$People", 91, "NotTwice$Shelf", "size", "I", "NotTwice") ∈ nt_nestF := List.mem_of_getElem? (i := 5) rfl
theorem nt_nf6 : ("NotTwice", 242, "NotTwice$Shelf", "size", "I", "NotTwice") ∈ nt_nestF := List.mem_of_getElem? (i := 6) rfl
theorem nt_nf7 : ("NotTwice$People", 137, "NotTwice$Texts", "names", "[I", "NotTwice") ∈ nt_nestF := List.mem_of_getElem? (i := 7) rfl
theorem nt_nf8 : ("NotTwice$People", 148, "NotTwice$Texts", "stack", "[I", "NotTwice") ∈ nt_nestF := List.mem_of_getElem? (i := 8) rfl
theorem nt_nf9 : ("NotTwice", 243, "NotTwice$Texts", "size", "I", "NotTwice") ∈ nt_nestF := List.mem_of_getElem? (i := 9) rfl
theorem nt_nf10 : ("NotTwice", 244, "NotTwice$Reader", "size", "I", "NotTwice") ∈ nt_nestF := List.mem_of_getElem? (i := 10) rfl
theorem nt_nf11 : ("NotTwice$Seating", 81, "NotTwice$People", "shelf", "LNotTwice$Shelf;", "NotTwice") ∈ nt_nestF := List.mem_of_getElem? (i := 11) rfl
theorem nt_nf12 : ("NotTwice", 102, "NotTwice$People", "house", "[I", "NotTwice") ∈ nt_nestF := List.mem_of_getElem? (i := 12) rfl
theorem nt_nf13 : ("NotTwice", 110, "NotTwice$People", "age", "[I", "NotTwice") ∈ nt_nestF := List.mem_of_getElem? (i := 13) rfl
theorem nt_nf14 : ("NotTwice$Seating", 78, "NotTwice$People", "tells", "[I", "NotTwice") ∈ nt_nestF := List.mem_of_getElem? (i := 14) rfl
theorem nt_nf15 : ("NotTwice", 113, "NotTwice$People", "tells", "[I", "NotTwice") ∈ nt_nestF := List.mem_of_getElem? (i := 15) rfl
theorem nt_nf16 : ("NotTwice", 116, "NotTwice$People", "heard", "[I", "NotTwice") ∈ nt_nestF := List.mem_of_getElem? (i := 16) rfl
theorem nt_nf17 : ("NotTwice$Seating", 37, "NotTwice$People", "size", "I", "NotTwice") ∈ nt_nestF := List.mem_of_getElem? (i := 17) rfl
theorem nt_nf18 : ("NotTwice", 212, "NotTwice$People", "size", "I", "NotTwice") ∈ nt_nestF := List.mem_of_getElem? (i := 18) rfl
theorem nt_nf19 : ("NotTwice", 182, "NotTwice$People", "night", "I", "NotTwice") ∈ nt_nestF := List.mem_of_getElem? (i := 19) rfl
theorem nt_nf20 : ("NotTwice", 157, "NotTwice$People", "rule", "I", "NotTwice") ∈ nt_nestF := List.mem_of_getElem? (i := 20) rfl
theorem nt_nf21 : ("NotTwice", 206, "NotTwice$Seating", "bestSeat", "[I", "NotTwice") ∈ nt_nestF := List.mem_of_getElem? (i := 21) rfl
theorem nt_nf22 : ("NotTwice", 203, "NotTwice$Seating", "best", "I", "NotTwice") ∈ nt_nestF := List.mem_of_getElem? (i := 22) rfl
theorem nt_nf23 : ("NotTwice", 254, "NotTwice$Sheets", "sort", "[I", "NotTwice") ∈ nt_nestF := List.mem_of_getElem? (i := 23) rfl
theorem nt_nf24 : ("NotTwice", 229, "NotTwice$Sheets", "size", "[I", "NotTwice") ∈ nt_nestF := List.mem_of_getElem? (i := 24) rfl
theorem nt_nm0 : ("NotTwice", 11, (⟨"NotTwice$Shelf", "<init>", "()V"⟩ : MethodName), "NotTwice") ∈ nt_nestM := List.mem_of_getElem? (i := 0) rfl
theorem nt_nm1 : ("NotTwice", 18, (⟨"NotTwice$Texts", "<init>", "()V"⟩ : MethodName), "NotTwice") ∈ nt_nestM := List.mem_of_getElem? (i := 1) rfl
theorem nt_nm2 : ("NotTwice", 25, (⟨"NotTwice$Reader", "<init>", "()V"⟩ : MethodName), "NotTwice") ∈ nt_nestM := List.mem_of_getElem? (i := 2) rfl
theorem nt_nm3 : ("NotTwice", 30, (⟨"NotTwice$Reader", "putFirstText", "()V"⟩ : MethodName), "NotTwice") ∈ nt_nestM := List.mem_of_getElem? (i := 3) rfl
theorem nt_nm4 : ("NotTwice", 33, (⟨"NotTwice$Reader", "reads", "()Z"⟩ : MethodName), "NotTwice") ∈ nt_nestM := List.mem_of_getElem? (i := 4) rfl
theorem nt_nm5 : ("NotTwice", 37, (⟨"NotTwice$Reader", "made", "()LNotTwice$Rule;"⟩ : MethodName), "NotTwice") ∈ nt_nestM := List.mem_of_getElem? (i := 5) rfl
theorem nt_nm6 : ("NotTwice$Reader", 49, (⟨"NotTwice$Rule", "<init>", "([IIII)V"⟩ : MethodName), "NotTwice") ∈ nt_nestM := List.mem_of_getElem? (i := 6) rfl
theorem nt_nm7 : ("NotTwice", 41, (⟨"NotTwice$Texts", "add", "(LNotTwice$Rule;)I"⟩ : MethodName), "NotTwice") ∈ nt_nestM := List.mem_of_getElem? (i := 7) rfl
theorem nt_nm8 : ("NotTwice", 45, (⟨"NotTwice$Reader", "empty", "()V"⟩ : MethodName), "NotTwice") ∈ nt_nestM := List.mem_of_getElem? (i := 8) rfl
theorem nt_nm9 : ("NotTwice", 50, (⟨"NotTwice$People", "<init>", "(LNotTwice$Shelf;LNotTwice$Texts;)V"⟩ : MethodName), "NotTwice") ∈ nt_nestM := List.mem_of_getElem? (i := 9) rfl
theorem nt_nm10 : ("NotTwice", 65, (⟨"NotTwice$Seating", "<init>", "(LNotTwice$People;)V"⟩ : MethodName), "NotTwice") ∈ nt_nestM := List.mem_of_getElem? (i := 10) rfl
theorem nt_nm11 : ("NotTwice", 74, (⟨"NotTwice$Sheets", "<init>", "()V"⟩ : MethodName), "NotTwice") ∈ nt_nestM := List.mem_of_getElem? (i := 11) rfl
theorem nt_nm12 : ("NotTwice", 83, (⟨"NotTwice$Shelf", "add", "(III)I"⟩ : MethodName), "NotTwice") ∈ nt_nestM := List.mem_of_getElem? (i := 12) rfl
theorem nt_nm13 : ("NotTwice", 86, (⟨"NotTwice$Shelf", "has", "(I)Z"⟩ : MethodName), "NotTwice") ∈ nt_nestM := List.mem_of_getElem? (i := 13) rfl
theorem nt_nm14 : ("NotTwice$Shelf", 28, (⟨"NotTwice", "isBelow", "(II)Z"⟩ : MethodName), "NotTwice") ∈ nt_nestM := List.mem_of_getElem? (i := 14) rfl
theorem nt_nm15 : ("NotTwice", 90, (⟨"NotTwice$Shelf", "join", "(II)V"⟩ : MethodName), "NotTwice") ∈ nt_nestM := List.mem_of_getElem? (i := 15) rfl
theorem nt_nm16 : ("NotTwice", 94, (⟨"NotTwice$People", "come", "(II)I"⟩ : MethodName), "NotTwice") ∈ nt_nestM := List.mem_of_getElem? (i := 16) rfl
theorem nt_nm17 : ("NotTwice$People", 42, (⟨"NotTwice", "isBelow", "(II)Z"⟩ : MethodName), "NotTwice") ∈ nt_nestM := List.mem_of_getElem? (i := 17) rfl
theorem nt_nm18 : ("NotTwice", 98, (⟨"NotTwice$People", "has", "(I)Z"⟩ : MethodName), "NotTwice") ∈ nt_nestM := List.mem_of_getElem? (i := 18) rfl
theorem nt_nm19 : ("NotTwice", 119, (⟨"NotTwice$People", "hear", "(II)V"⟩ : MethodName), "NotTwice") ∈ nt_nestM := List.mem_of_getElem? (i := 19) rfl
theorem nt_nm20 : ("NotTwice", 122, (⟨"NotTwice$People", "forget", "(II)V"⟩ : MethodName), "NotTwice") ∈ nt_nestM := List.mem_of_getElem? (i := 20) rfl
theorem nt_nm21 : ("NotTwice", 137, (⟨"NotTwice$Shelf", "stays", "(I)I"⟩ : MethodName), "NotTwice") ∈ nt_nestM := List.mem_of_getElem? (i := 21) rfl
theorem nt_nm22 : ("NotTwice", 141, (⟨"NotTwice$Shelf", "counts", "(II)I"⟩ : MethodName), "NotTwice") ∈ nt_nestM := List.mem_of_getElem? (i := 22) rfl
theorem nt_nm23 : ("NotTwice", 144, (⟨"NotTwice$People", "knows", "(I)I"⟩ : MethodName), "NotTwice") ∈ nt_nestM := List.mem_of_getElem? (i := 23) rfl
theorem nt_nm24 : ("NotTwice$People", 66, (⟨"NotTwice$Shelf", "withTwins", "(I)I"⟩ : MethodName), "NotTwice") ∈ nt_nestM := List.mem_of_getElem? (i := 24) rfl
theorem nt_nm25 : ("NotTwice", 147, (⟨"NotTwice$Reader", "put", "(I)I"⟩ : MethodName), "NotTwice") ∈ nt_nestM := List.mem_of_getElem? (i := 25) rfl
theorem nt_nm26 : ("NotTwice", 149, (⟨"NotTwice$Texts", "isFull", "()Z"⟩ : MethodName), "NotTwice") ∈ nt_nestM := List.mem_of_getElem? (i := 26) rfl
theorem nt_nm27 : ("NotTwice", 152, (⟨"NotTwice$Reader", "place", "()I"⟩ : MethodName), "NotTwice") ∈ nt_nestM := List.mem_of_getElem? (i := 27) rfl
theorem nt_nm28 : ("NotTwice", 156, (⟨"NotTwice$Texts", "has", "(I)Z"⟩ : MethodName), "NotTwice") ∈ nt_nestM := List.mem_of_getElem? (i := 28) rfl
theorem nt_nm29 : ("NotTwice$Texts", 30, (⟨"NotTwice", "isBelow", "(II)Z"⟩ : MethodName), "NotTwice") ∈ nt_nestM := List.mem_of_getElem? (i := 29) rfl
theorem nt_nm30 : ("NotTwice", 161, (⟨"NotTwice$People", "tellableIn", "(I)I"⟩ : MethodName), "NotTwice") ∈ nt_nestM := List.mem_of_getElem? (i := 30) rfl
theorem nt_nm31 : ("NotTwice$People", 84, (⟨"NotTwice$Shelf", "all", "()I"⟩ : MethodName), "NotTwice") ∈ nt_nestM := List.mem_of_getElem? (i := 31) rfl
theorem nt_nm32 : ("NotTwice$People", 131, (⟨"NotTwice$Texts", "at", "(I)LNotTwice$Rule;"⟩ : MethodName), "NotTwice") ∈ nt_nestM := List.mem_of_getElem? (i := 32) rfl
theorem nt_nm33 : ("NotTwice$People", 140, (⟨"NotTwice$Shelf", "counts", "(II)I"⟩ : MethodName), "NotTwice") ∈ nt_nestM := List.mem_of_getElem? (i := 33) rfl
theorem nt_nm34 : ("NotTwice$People", 151, (⟨"NotTwice$Rule", "value", "(I[I[I)I"⟩ : MethodName), "NotTwice") ∈ nt_nestM := List.mem_of_getElem? (i := 34) rfl
theorem nt_nm35 : ("NotTwice", 164, (⟨"NotTwice$People", "byWhom", "(II)I"⟩ : MethodName), "NotTwice") ∈ nt_nestM := List.mem_of_getElem? (i := 35) rfl
theorem nt_nm36 : ("NotTwice", 167, (⟨"NotTwice$People", "worthOf", "(II)J"⟩ : MethodName), "NotTwice") ∈ nt_nestM := List.mem_of_getElem? (i := 36) rfl
theorem nt_nm37 : ("NotTwice", 173, (⟨"NotTwice$People", "bestOf", "(I)I"⟩ : MethodName), "NotTwice") ∈ nt_nestM := List.mem_of_getElem? (i := 37) rfl
theorem nt_nm38 : ("NotTwice", 176, (⟨"NotTwice$People", "spend", "(II)I"⟩ : MethodName), "NotTwice") ∈ nt_nestM := List.mem_of_getElem? (i := 38) rfl
theorem nt_nm39 : ("NotTwice", 179, (⟨"NotTwice$People", "sleep", "()V"⟩ : MethodName), "NotTwice") ∈ nt_nestM := List.mem_of_getElem? (i := 39) rfl
theorem nt_nm40 : ("NotTwice$People", 125, (⟨"NotTwice$Shelf", "stays", "(I)I"⟩ : MethodName), "NotTwice") ∈ nt_nestM := List.mem_of_getElem? (i := 40) rfl
theorem nt_nm41 : ("NotTwice", 185, (⟨"NotTwice$People", "unheardIn", "(I)I"⟩ : MethodName), "NotTwice") ∈ nt_nestM := List.mem_of_getElem? (i := 41) rfl
theorem nt_nm42 : ("NotTwice", 209, (⟨"NotTwice$People", "takeAll", "(LNotTwice$People;)V"⟩ : MethodName), "NotTwice") ∈ nt_nestM := List.mem_of_getElem? (i := 42) rfl
theorem nt_nm43 : ("NotTwice", 196, (⟨"NotTwice$Seating", "waysOver", "(I)I"⟩ : MethodName), "NotTwice") ∈ nt_nestM := List.mem_of_getElem? (i := 43) rfl
theorem nt_nm44 : ("NotTwice", 199, (⟨"NotTwice$Seating", "search", "(I)V"⟩ : MethodName), "NotTwice") ∈ nt_nestM := List.mem_of_getElem? (i := 44) rfl
theorem nt_nm45 : ("NotTwice$Seating", 72, (⟨"NotTwice$People", "knows", "(I)I"⟩ : MethodName), "NotTwice") ∈ nt_nestM := List.mem_of_getElem? (i := 45) rfl
theorem nt_nm46 : ("NotTwice$Seating", 85, (⟨"NotTwice$Shelf", "all", "()I"⟩ : MethodName), "NotTwice") ∈ nt_nestM := List.mem_of_getElem? (i := 46) rfl
theorem nt_nm47 : ("NotTwice$Seating", 92, (⟨"NotTwice$People", "value", "(IIII)I"⟩ : MethodName), "NotTwice") ∈ nt_nestM := List.mem_of_getElem? (i := 47) rfl
theorem nt_nm48 : ("NotTwice", 215, (⟨"NotTwice$People", "tellableBy", "(I)I"⟩ : MethodName), "NotTwice") ∈ nt_nestM := List.mem_of_getElem? (i := 48) rfl
theorem nt_nm49 : ("NotTwice", 218, (⟨"NotTwice$People", "sit", "(III)V"⟩ : MethodName), "NotTwice") ∈ nt_nestM := List.mem_of_getElem? (i := 49) rfl
theorem nt_nm50 : ("NotTwice", 222, (⟨"NotTwice$Shelf", "all", "()I"⟩ : MethodName), "NotTwice") ∈ nt_nestM := List.mem_of_getElem? (i := 50) rfl
theorem nt_nm51 : ("NotTwice", 225, (⟨"NotTwice$Sheets", "has", "(I)Z"⟩ : MethodName), "NotTwice") ∈ nt_nestM := List.mem_of_getElem? (i := 51) rfl
theorem nt_nm52 : ("NotTwice$Sheets", 21, (⟨"NotTwice", "isBelow", "(II)Z"⟩ : MethodName), "NotTwice") ∈ nt_nestM := List.mem_of_getElem? (i := 52) rfl
theorem nt_nm53 : ("NotTwice", 226, (⟨"NotTwice$Sheets", "isMissing", "(I)Z"⟩ : MethodName), "NotTwice") ∈ nt_nestM := List.mem_of_getElem? (i := 53) rfl
theorem nt_nm54 : ("NotTwice", 231, (⟨"NotTwice$Sheets", "at", "(II)I"⟩ : MethodName), "NotTwice") ∈ nt_nestM := List.mem_of_getElem? (i := 54) rfl
theorem nt_nm55 : ("NotTwice", 239, (⟨"NotTwice$People", "goBackTo", "(LNotTwice$People;)V"⟩ : MethodName), "NotTwice") ∈ nt_nestM := List.mem_of_getElem? (i := 55) rfl
theorem nt_nm56 : ("NotTwice", 245, (⟨"NotTwice$Sheets", "lay", "(III)V"⟩ : MethodName), "NotTwice") ∈ nt_nestM := List.mem_of_getElem? (i := 56) rfl
theorem nt_nm57 : ("NotTwice", 248, (⟨"NotTwice$Sheets", "reaches", "(II)Z"⟩ : MethodName), "NotTwice") ∈ nt_nestM := List.mem_of_getElem? (i := 57) rfl
theorem nt_nm58 : ("NotTwice", 251, (⟨"NotTwice$Sheets", "write", "(III)V"⟩ : MethodName), "NotTwice") ∈ nt_nestM := List.mem_of_getElem? (i := 58) rfl
theorem nt_nm59 : ("NotTwice", 257, (⟨"NotTwice$Sheets", "hasRun", "(III)Z"⟩ : MethodName), "NotTwice") ∈ nt_nestM := List.mem_of_getElem? (i := 59) rfl
theorem nt_nm60 : ("NotTwice", 261, (⟨"NotTwice$Sheets", "carry", "(IIIII)V"⟩ : MethodName), "NotTwice") ∈ nt_nestM := List.mem_of_getElem? (i := 60) rfl
theorem nt_nm61 : ("NotTwice", 265, (⟨"NotTwice$Shelf", "isUnder", "(II)Z"⟩ : MethodName), "NotTwice") ∈ nt_nestM := List.mem_of_getElem? (i := 61) rfl
/-- the words of private members that classes of one nest share -/
def nt_N (U : State) : Prop := (∀ q ∈ nt_nestF, va_Nw (.fieldLinkNest q.1 q.2.1 q.2.2.1 q.2.2.2.1 q.2.2.2.2.1 q.2.2.2.2.2) U) ∧ ∀ q ∈ nt_nestM, va_Nw (.methodLinkNest q.1 q.2.1 q.2.2.1 q.2.2.2) U
theorem nt_N_warm {s U : State} (hW : s.WarmedH U.vm) (h : nt_N s) : nt_N U := ⟨fun q hq => va_Nw.warmF hW (h.1 q hq), fun q hq => va_Nw.warmM hW (h.2 q hq)⟩
theorem nt_N_same {s U : State} (hv : s.vm = U.vm) (h : nt_N s) : nt_N U := ⟨fun q hq => va_Nw.same rfl hv (h.1 q hq), fun q hq => va_Nw.same rfl hv (h.2 q hq)⟩
def nt_under (j : Nat) : Value := .int ([-1, 0, 0, 1, 2, 1].getD j 0)

def nt_len : List Nat := [64, 59, 8]
def nt_byt : List (List Int32) := [[108, 105, 107, 101, 115, 32, 119, 111, 114, 116, 104, 32, 43, 32, 40, 32, 97, 103, 101, 32, 60, 32, 49, 52, 32, 41, 32, 42, 32, 50, 32, 59, 32, 112, 97, 121, 115, 32, 48, 32, 45, 32, 109, 97, 110, 121, 32, 59, 32, 116, 105, 114, 101, 115, 32, 111, 119, 110, 32, 60, 32, 49, 32, 59], [97, 103, 101, 32, 119, 111, 114, 116, 104, 32, 104, 101, 97, 114, 100, 32, 109, 97, 110, 121, 32, 110, 105, 103, 104, 116, 32, 111, 119, 110, 32, 111, 114, 32, 97, 110, 100, 32, 110, 111, 116, 32, 108, 105, 107, 101, 115, 32, 112, 97, 121, 115, 32, 116, 105, 114, 101, 115, 32], [40, 41, 59, 43, 45, 42, 60, 61]]
/-- constants outside the world: nest words, statics, texts -/
def nt_Z (zk : Nat → Nat) (zf : Value) (A : Nat → Prop) (U : State) (H : Heap) : Prop :=
  nt_N U ∧ va_Z RX5 "UNDER" "[I" (.ref (zk 0)) A U H ∧ va_T .int (zk 0) 6 nt_under A U H ∧ va_Z RJ0 "COMPACT_STRINGS" "Z" (.int 1) A U H ∧ va_Z RJ3 "SIOOBE_FORMATTER" "Ljava/util/function/BiFunction;" zf A U H ∧ vk_S 3 nt_len nt_byt (fun i => zk (1 + i)) (fun i => zk (4 + i)) A U H ∧ vk_R RX1 25 "likes worth + ( age < 14 ) * 2 ; pays 0 - many ; tires own < 1 ;" (zk 1) U ∧ vk_R RX1 104 "age worth heard many night own or and not likes pays tires " (zk 2) U ∧ vk_R RX1 99 "();+-*<=" (zk 3) U
theorem nt_Z_go {zk : Nat → Nat} {zf : Value} {A B : Nat → Prop} {s U : State} {H : Heap} {locs : List Loc} (h : nt_Z zk zf A s s.heap) (hW : s.WarmedH U.vm) (hAB : ∀ q, B q → A q) (hS : va_S A s.heap H locs) : nt_Z zk zf B U H := by
  obtain ⟨h1, h2, h3, h4, h5, h6, h7, h8, h9⟩ := h
  exact ⟨nt_N_warm hW h1, ((h2.moved hW.alike).kept hS.2.1).narrow hAB, ((h3.moved hW.alike).kept hS.2.1).narrow hAB, ((h4.moved hW.alike).kept hS.2.1).narrow hAB, ((h5.moved hW.alike).kept hS.2.1).narrow hAB, ((h6.moved hW.alike).kept hS.2.1).narrow hAB, vk_R.warm hW h7, vk_R.warm hW h8, vk_R.warm hW h9⟩
theorem nt_Z_blind {zk : Nat → Nat} {zf : Value} {A : Nat → Prop} {U : State} {g : JFrame} {mk : MethodId} {a : Array Value} (h : nt_Z zk zf A U U.heap) : nt_Z zk zf A (U.calling g mk a) (U.calling g mk a).heap := by
  obtain ⟨h1, h2, h3, h4, h5, h6, h7, h8, h9⟩ := h
  have hv : U.vm.Alike (U.calling g mk a).vm := Vm.Alike.refl U.vm
  exact ⟨nt_N_same (U := U.calling g mk a) rfl h1, va_Z.moved hv h2, va_T.moved hv h3, va_Z.moved hv h4, va_Z.moved hv h5, vk_S.moved hv h6, vk_R.same (U := U.calling g mk a) rfl h7, vk_R.same (U := U.calling g mk a) rfl h8, vk_R.same (U := U.calling g mk a) rfl h9⟩

def nt_ws (y : MethodName) (cc : ByteArray) (nL : Nat) (ret : Option FieldType) : List Cond := .code y cc nL ret :: nt_tbl
theorem nt_ws_good {y : MethodName} {cc : ByteArray} {nL : Nat} {ret : Option FieldType} (h : Cond.code y cc nL ret ∈ nt_tbl) : GoodIn nt_tbl (nt_ws y cc nL ret) := by
  intro w hw
  have hm : w ∈ nt_tbl := by
    rcases List.mem_cons.mp hw with rfl | hw
    · exact h
    · exact hw
  exact ⟨hm, good_of_word (nt_good w hm)⟩
/-- the room of a method under which calls go d deep and nothing is made -/
def nt_rm (d : Nat) : Room := { frames := d, cells := 0, slots := 0, locals := 60 * d }
/-- what a method finds -/
def nt_P (w : nt_w) (g : nt_T) (sz : Nat) (U : State) : Prop := U.heap.size = sz ∧ va_P w.1 vwCl (nt_W w g) U.heap ∧ va_K w.1 vwCl w.2.1 U ∧ va_D (fun _ => True) (nt_W w g) ∧ nt_Z w.2.2.1 w.2.2.2.1 (va_A (nt_W w g) sz) U U.heap
/-- what it leaves -/
def nt_B (w : nt_w) (u : nt_T) (t : State) : Prop := va_P w.1 vwCl (nt_W w u) t.heap
/-- the contracts of methods that make nothing: an int (boolean, char), a long, nothing comes back -/
def nt_Mi (l : Launch) (w : nt_w) (y : MethodName) (cc : ByteArray) (nL : Nat) (ret : Option FieldType) (d : Nat) (av : List Value) (g : nt_T) (r : Int32) (g' : nt_T) : Prop := ∀ sz : Nat, Met l y (nt_ws y cc nL ret) (nt_rm d) (va_Pc av (nt_P w g sz)) (va_Qi (fun (r' : Int32) (u : nt_T) => r' = r ∧ u = g') (nt_B w) (va_A (nt_W w g) sz)) 0 0 (va_A (nt_W w g) sz)
def nt_Ml (l : Launch) (w : nt_w) (y : MethodName) (cc : ByteArray) (nL : Nat) (ret : Option FieldType) (d : Nat) (av : List Value) (g : nt_T) (r : Int64) (g' : nt_T) : Prop := ∀ sz : Nat, Met l y (nt_ws y cc nL ret) (nt_rm d) (va_Pc av (nt_P w g sz)) (va_Ql (fun (r' : Int64) (u : nt_T) => r' = r ∧ u = g') (nt_B w) (va_A (nt_W w g) sz)) 0 0 (va_A (nt_W w g) sz)
def nt_Mv (l : Launch) (w : nt_w) (y : MethodName) (cc : ByteArray) (nL : Nat) (ret : Option FieldType) (d : Nat) (av : List Value) (g : nt_T) (g' : nt_T) : Prop := ∀ sz : Nat, Met l y (nt_ws y cc nL ret) (nt_rm d) (va_Pc av (nt_P w g sz)) (va_Qv (fun (u : nt_T) => u = g') (nt_B w) (va_A (nt_W w g) sz)) 0 0 (va_A (nt_W w g) sz)
/-- what stands still while a method runs -/
def nt_X (cc : ByteArray) (nL : Nat) (own : String) (ret : Option FieldType) (w : nt_w) (A : Nat → Prop) (p : Program) (s : State) (m : MethodId) (args : Array Value) (meth : Method) (c : Code) : Prop :=
  p.tables.exec = Jvm.exec ∧ c.code = cc ∧ c.maxLocals = nL ∧ s.vm.findClass own = some m.cls ∧ (∀ q ∈ nt_tbl, q.before args s = true) ∧ meth.locks = false ∧ meth.sig.returnType = ret ∧ va_K w.1 vwCl w.2.1 s ∧ (∀ q, s.heap.size ≤ q → A q) ∧ nt_Z w.2.2.1 w.2.2.2.1 A s s.heap
/-- the machine at pc, with these locals, this stack, this world, comes to Q -/
def nt_G (p : Program) (l : Launch) (e : Env) (R : Room) (s : State) (m : MethodId) (args : Array Value) (below : List Frame) (meth : Method) (c : Code) (w : nt_w) (A : Nat → Prop) (cells slots : Nat) (Q : State → Prop) (nL : Nat) (pc : Nat) (lv : List (Nat × Value)) (st : List Value) (g : nt_T) : Prop :=
  ∀ (H : Heap) (locs : List Loc) (ls : Array Slot), va_P w.1 vwCl (nt_W w g) H → va_D A (nt_W w g) → va_S A s.heap H locs → lv_has ls nL lv → W p l e R s m args below meth c H locs cells slots Q (F0 m pc ls st)
/-- a computation that comes to something with Q -/
def nt_R {α : Type} (o : Option α) (Q : α → Prop) : Prop := ∃ x, o = some x ∧ Q x
def nt_gd {α : Type} (c : Bool) (o : Option α) : Option α := if c = true then o else none
def nt_lt {α β : Type} (a : α) (f : α → Option β) : Option β := f a
def nt_b1 {α β : Type} (o : Option α) (f : α → Option β) : Option β := match o with
  | none => none
  | some a => f a
def nt_b2 {α γ β : Type} (o : Option (α × γ)) (f : α → γ → Option β) : Option β := match o with
  | none => none
  | some a => f a.1 a.2
/-- a loop with fuel: its body goes on with a state, or leaves with something -/
def nt_it {S X : Type} (body : S → Option (S ⊕ X)) : Nat → S → Option X
  | 0, _ => none
  | n + 1, s => match body s with
    | none => none
    | some (.inl s') => nt_it body n s'
    | some (.inr x) => some x
def nt_fu : Nat := 5000
def nt_in (i : Int32) (n : Nat) : Bool := decide (¬ i < 0) && decide (i.toNatClampNeg < n)
theorem nt_in_vp {i : Int32} {n : Nat} (h : nt_in i n = true) : vp_in i n := by
  simp only [nt_in, Bool.and_eq_true, decide_eq_true_eq] at h
  intro q
  rcases q with q | q
  · exact h.1 q
  · exact absurd h.2 (Nat.not_lt.mpr q)
theorem nt_R_none {α : Type} {Q : α → Prop} {P : Prop} (h : nt_R none Q) : P := by
  obtain ⟨x, h1, -⟩ := h
  cases h1
theorem nt_R_some {α : Type} {Q : α → Prop} {a : α} (h : nt_R (some a) Q) : Q a := by
  obtain ⟨x, h1, h2⟩ := h
  cases h1
  exact h2
theorem nt_R_gd {α : Type} {Q : α → Prop} {c : Bool} {o : Option α} (h : nt_R (nt_gd c o) Q) : c = true ∧ nt_R o Q := by
  by_cases hc : c = true
  · rw [nt_gd, if_pos hc] at h
    exact ⟨hc, h⟩
  · rw [nt_gd, if_neg hc] at h
    exact nt_R_none h
theorem nt_R_if {α : Type} {Q : α → Prop} {c : Prop} {_ : Decidable c} {a b : Option α} (h : nt_R (if c then a else b) Q) : (c → nt_R a Q) ∧ (¬ c → nt_R b Q) :=
  ⟨fun hc => by rw [if_pos hc] at h; exact h, fun hc => by rw [if_neg hc] at h; exact h⟩
theorem nt_R_lt {α β : Type} {Q : β → Prop} {a : α} {f : α → Option β} (h : nt_R (nt_lt a f) Q) : ∃ x, a = x ∧ nt_R (f x) Q := ⟨a, rfl, h⟩
theorem nt_R_b1 {α β : Type} {Q : β → Prop} {o : Option α} {f : α → Option β} (h : nt_R (nt_b1 o f) Q) : ∃ x, o = some x ∧ nt_R (f x) Q := by
  cases o with
  | none => exact nt_R_none h
  | some a => exact ⟨a, rfl, h⟩
theorem nt_R_b2 {α γ β : Type} {Q : β → Prop} {o : Option (α × γ)} {f : α → γ → Option β} (h : nt_R (nt_b2 o f) Q) : ∃ x y, o = some (x, y) ∧ nt_R (f x y) Q := by
  cases o with
  | none => exact nt_R_none h
  | some a => exact ⟨a.1, a.2, rfl, h⟩
def nt_Qz {S X : Type} (body : S → Option (S ⊕ X)) (n : Nat) (Q : X → Prop) : S ⊕ X → Prop
  | .inl s => nt_R (nt_it body n s) Q
  | .inr x => Q x
theorem nt_R_it {S X : Type} {body : S → Option (S ⊕ X)} {n : Nat} {s : S} {Q : X → Prop} (h : nt_R (nt_it body (n + 1) s) Q) : nt_R (body s) (nt_Qz body n Q) := by
  obtain ⟨x, h1, h2⟩ := h
  rw [nt_it] at h1
  cases hb : body s with
  | none => rw [hb] at h1; cases h1
  | some z =>
    rw [hb] at h1
    cases z with
    | inl s' => exact ⟨_, rfl, ⟨x, h1, h2⟩⟩
    | inr y => cases h1; exact ⟨_, rfl, h2⟩

abbrev nt_Qi (w : nt_w) (A : Nat → Prop) (below : List Frame) (args : Array Value) (s : State) (r : Int32) (g2 : nt_T) : State → Prop := MQ below (va_Qi (fun (r' : Int32) (u : nt_T) => r' = r ∧ u = g2) (nt_B w) A) args s 0 0 A
abbrev nt_Ql (w : nt_w) (A : Nat → Prop) (below : List Frame) (args : Array Value) (s : State) (r : Int64) (g2 : nt_T) : State → Prop := MQ below (va_Ql (fun (r' : Int64) (u : nt_T) => r' = r ∧ u = g2) (nt_B w) A) args s 0 0 A
abbrev nt_Qv (w : nt_w) (A : Nat → Prop) (below : List Frame) (args : Array Value) (s : State) (g2 : nt_T) : State → Prop := MQ below (va_Qv (fun (u : nt_T) => u = g2) (nt_B w) A) args s 0 0 A
section NT
variable {p : Program} {l : Launch} {e : Env} {R : Room} {s : State} {m : MethodId} {args : Array Value} {below : List Frame} {meth : Method} {c : Code} {cells slots : Nat} {Q : State → Prop}
variable {cc : ByteArray} {nL : Nat} {own : String} {ret : Option FieldType} {w : nt_w} {A : Nat → Prop} {g : nt_T} {pc : Nat} {lv : List (Nat × Value)} {rest : List Value}
theorem nt_iconst (X : nt_X cc nL own ret w A p s m args meth c) {n : Int} {v : Int32} (d : decode cc pc = .ok (.iconst n, 1)) (hv : Int32.ofInt n = v) (k : nt_G p l e R s m args below meth c w A cells slots Q nL (pc + 1) lv (.int v :: rest) g) : nt_G p l e R s m args below meth c w A cells slots Q nL pc lv (rest) g := fun H locs ls hP hD hS hl => lv_iconst X.1 X.2.1 d hv (k H locs ls hP hD hS hl)
theorem nt_bipush (X : nt_X cc nL own ret w A p s m args meth c) {n : Int} {v : Int32} (d : decode cc pc = .ok (.bipush n, 2)) (hv : (Int8.ofInt n).toInt32 = v) (k : nt_G p l e R s m args below meth c w A cells slots Q nL (pc + 2) lv (.int v :: rest) g) : nt_G p l e R s m args below meth c w A cells slots Q nL pc lv (rest) g := fun H locs ls hP hD hS hl => lv_bipush X.1 X.2.1 d hv (k H locs ls hP hD hS hl)
theorem nt_sipush (X : nt_X cc nL own ret w A p s m args meth c) {n : Int} {v : Int32} (d : decode cc pc = .ok (.sipush n, 3)) (hv : (Int16.ofInt n).toInt32 = v) (k : nt_G p l e R s m args below meth c w A cells slots Q nL (pc + 3) lv (.int v :: rest) g) : nt_G p l e R s m args below meth c w A cells slots Q nL pc lv (rest) g := fun H locs ls hP hD hS hl => lv_sipush X.1 X.2.1 d hv (k H locs ls hP hD hS hl)
theorem nt_lconst (X : nt_X cc nL own ret w A p s m args meth c) {n : Fin 2} {v : Int64} (d : decode cc pc = .ok (.lconst n, 1)) (hv : Int64.ofNat (n : Nat) = v) (k : nt_G p l e R s m args below meth c w A cells slots Q nL (pc + 1) lv (.long v :: rest) g) : nt_G p l e R s m args below meth c w A cells slots Q nL pc lv (rest) g := fun H locs ls hP hD hS hl => lv_lconst X.1 X.2.1 d hv (k H locs ls hP hD hS hl)
theorem nt_iload_n (X : nt_X cc nL own ret w A p s m args meth c) {q : Fin 4} {i : Nat} {x : Int32} (d : decode cc pc = .ok (.iload_n q, 1)) (hi : (q : Nat) = i) (z : Nat) (hz : lv[z]? = some (i, .int x)) (k : nt_G p l e R s m args below meth c w A cells slots Q nL (pc + 1) lv (.int x :: rest) g) : nt_G p l e R s m args below meth c w A cells slots Q nL pc lv rest g := fun H locs ls hP hD hS hl => lv_iload_n X.1 X.2.1 d hi (lv_at hl z hz) (k H locs ls hP hD hS hl)
theorem nt_iload (X : nt_X cc nL own ret w A p s m args meth c) {i : Nat} {x : Int32} (d : decode cc pc = .ok (.iload i, 2)) (z : Nat) (hz : lv[z]? = some (i, .int x)) (k : nt_G p l e R s m args below meth c w A cells slots Q nL (pc + 2) lv (.int x :: rest) g) : nt_G p l e R s m args below meth c w A cells slots Q nL pc lv rest g := fun H locs ls hP hD hS hl => lv_iload X.1 X.2.1 d (lv_at hl z hz) (k H locs ls hP hD hS hl)
theorem nt_istore_n (X : nt_X cc nL own ret w A p s m args meth c) {q : Fin 4} {i : Nat} {x : Int32} (lv2 : List (Nat × Value)) (d : decode cc pc = .ok (.istore_n q, 1)) (hi : (q : Nat) = i) (hn : i < nL) (hl2 : (i, Value.int x) :: lv.filter (fun q => !(q.1 == i) && !(q.1 + 1 == i && q.2.category == 2)) = lv2) (k : nt_G p l e R s m args below meth c w A cells slots Q nL (pc + 1) lv2 rest g) : nt_G p l e R s m args below meth c w A cells slots Q nL pc lv (.int x :: rest) g := fun H locs ls hP hD hS hl => lv_istore_n X.1 X.2.1 d hi hl hn hl2 (fun ls hl => (k H locs ls hP hD hS hl))
theorem nt_istore (X : nt_X cc nL own ret w A p s m args meth c) {i : Nat} {x : Int32} (lv2 : List (Nat × Value)) (d : decode cc pc = .ok (.istore i, 2)) (hn : i < nL) (hl2 : (i, Value.int x) :: lv.filter (fun q => !(q.1 == i) && !(q.1 + 1 == i && q.2.category == 2)) = lv2) (k : nt_G p l e R s m args below meth c w A cells slots Q nL (pc + 2) lv2 rest g) : nt_G p l e R s m args below meth c w A cells slots Q nL pc lv (.int x :: rest) g := fun H locs ls hP hD hS hl => lv_istore X.1 X.2.1 d hl hn hl2 (fun ls hl => (k H locs ls hP hD hS hl))
theorem nt_lload_n (X : nt_X cc nL own ret w A p s m args meth c) {q : Fin 4} {i : Nat} {x : Int64} (d : decode cc pc = .ok (.lload_n q, 1)) (hi : (q : Nat) = i) (z : Nat) (hz : lv[z]? = some (i, .long x)) (k : nt_G p l e R s m args below meth c w A cells slots Q nL (pc + 1) lv (.long x :: rest) g) : nt_G p l e R s m args below meth c w A cells slots Q nL pc lv rest g := fun H locs ls hP hD hS hl => lv_lload_n X.1 X.2.1 d hi (lv_at hl z hz) (k H locs ls hP hD hS hl)
theorem nt_lload (X : nt_X cc nL own ret w A p s m args meth c) {i : Nat} {x : Int64} (d : decode cc pc = .ok (.lload i, 2)) (z : Nat) (hz : lv[z]? = some (i, .long x)) (k : nt_G p l e R s m args below meth c w A cells slots Q nL (pc + 2) lv (.long x :: rest) g) : nt_G p l e R s m args below meth c w A cells slots Q nL pc lv rest g := fun H locs ls hP hD hS hl => lv_lload X.1 X.2.1 d (lv_at hl z hz) (k H locs ls hP hD hS hl)
theorem nt_lstore_n (X : nt_X cc nL own ret w A p s m args meth c) {q : Fin 4} {i : Nat} {x : Int64} (lv2 : List (Nat × Value)) (d : decode cc pc = .ok (.lstore_n q, 1)) (hi : (q : Nat) = i) (hn : i + 1 < nL) (hl2 : (i, Value.long x) :: lv.filter (fun q => !(q.1 == i) && (!(q.1 == i + 1) && !(q.1 + 1 == i && q.2.category == 2))) = lv2) (k : nt_G p l e R s m args below meth c w A cells slots Q nL (pc + 1) lv2 rest g) : nt_G p l e R s m args below meth c w A cells slots Q nL pc lv (.long x :: rest) g := fun H locs ls hP hD hS hl => lv_lstore_n X.1 X.2.1 d hi hl hn hl2 (fun ls hl => (k H locs ls hP hD hS hl))
theorem nt_lstore (X : nt_X cc nL own ret w A p s m args meth c) {i : Nat} {x : Int64} (lv2 : List (Nat × Value)) (d : decode cc pc = .ok (.lstore i, 2)) (hn : i + 1 < nL) (hl2 : (i, Value.long x) :: lv.filter (fun q => !(q.1 == i) && (!(q.1 == i + 1) && !(q.1 + 1 == i && q.2.category == 2))) = lv2) (k : nt_G p l e R s m args below meth c w A cells slots Q nL (pc + 2) lv2 rest g) : nt_G p l e R s m args below meth c w A cells slots Q nL pc lv (.long x :: rest) g := fun H locs ls hP hD hS hl => lv_lstore X.1 X.2.1 d hl hn hl2 (fun ls hl => (k H locs ls hP hD hS hl))
theorem nt_aload_n (X : nt_X cc nL own ret w A p s m args meth c) {q : Fin 4} {i : Nat} {x : Nat} (d : decode cc pc = .ok (.aload_n q, 1)) (hi : (q : Nat) = i) (z : Nat) (hz : lv[z]? = some (i, .ref x)) (k : nt_G p l e R s m args below meth c w A cells slots Q nL (pc + 1) lv (.ref x :: rest) g) : nt_G p l e R s m args below meth c w A cells slots Q nL pc lv rest g := fun H locs ls hP hD hS hl => lv_aload_n X.1 X.2.1 d hi (lv_at hl z hz) (k H locs ls hP hD hS hl)
theorem nt_aload (X : nt_X cc nL own ret w A p s m args meth c) {i : Nat} {x : Nat} (d : decode cc pc = .ok (.aload i, 2)) (z : Nat) (hz : lv[z]? = some (i, .ref x)) (k : nt_G p l e R s m args below meth c w A cells slots Q nL (pc + 2) lv (.ref x :: rest) g) : nt_G p l e R s m args below meth c w A cells slots Q nL pc lv rest g := fun H locs ls hP hD hS hl => lv_aload X.1 X.2.1 d (lv_at hl z hz) (k H locs ls hP hD hS hl)
theorem nt_astore_n (X : nt_X cc nL own ret w A p s m args meth c) {q : Fin 4} {i : Nat} {x : Nat} (lv2 : List (Nat × Value)) (d : decode cc pc = .ok (.astore_n q, 1)) (hi : (q : Nat) = i) (hn : i < nL) (hl2 : (i, Value.ref x) :: lv.filter (fun q => !(q.1 == i) && !(q.1 + 1 == i && q.2.category == 2)) = lv2) (k : nt_G p l e R s m args below meth c w A cells slots Q nL (pc + 1) lv2 rest g) : nt_G p l e R s m args below meth c w A cells slots Q nL pc lv (.ref x :: rest) g := fun H locs ls hP hD hS hl => lv_astore_n X.1 X.2.1 d hi hl hn hl2 (fun ls hl => (k H locs ls hP hD hS hl))
theorem nt_astore (X : nt_X cc nL own ret w A p s m args meth c) {i : Nat} {x : Nat} (lv2 : List (Nat × Value)) (d : decode cc pc = .ok (.astore i, 2)) (hn : i < nL) (hl2 : (i, Value.ref x) :: lv.filter (fun q => !(q.1 == i) && !(q.1 + 1 == i && q.2.category == 2)) = lv2) (k : nt_G p l e R s m args below meth c w A cells slots Q nL (pc + 2) lv2 rest g) : nt_G p l e R s m args below meth c w A cells slots Q nL pc lv (.ref x :: rest) g := fun H locs ls hP hD hS hl => lv_astore X.1 X.2.1 d hl hn hl2 (fun ls hl => (k H locs ls hP hD hS hl))
theorem nt_iinc (X : nt_X cc nL own ret w A p s m args meth c) {i : Nat} {n : Int} {x : Int32} (v : Int32) (lv2 : List (Nat × Value)) (d : decode cc pc = .ok (.iinc i n, 3)) (z : Nat) (hz : lv[z]? = some (i, .int x)) (hv : x + Int32.ofInt n = v) (hn : i < nL) (hl2 : (i, Value.int v) :: lv.filter (fun q => !(q.1 == i) && !(q.1 + 1 == i && q.2.category == 2)) = lv2) (k : nt_G p l e R s m args below meth c w A cells slots Q nL (pc + 3) lv2 rest g) : nt_G p l e R s m args below meth c w A cells slots Q nL pc lv rest g := fun H locs ls hP hD hS hl => lv_iinc X.1 X.2.1 d hl hz hv hn hl2 (fun ls hl => (k H locs ls hP hD hS hl))
theorem nt_iadd (X : nt_X cc nL own ret w A p s m args meth c) {x y : Int32} (d : decode cc pc = .ok (.iadd, 1)) (k : nt_G p l e R s m args below meth c w A cells slots Q nL (pc + 1) lv (.int (x + y) :: rest) g) : nt_G p l e R s m args below meth c w A cells slots Q nL pc lv (.int y :: .int x :: rest) g := fun H locs ls hP hD hS hl => lv_iadd X.1 X.2.1 d (k H locs ls hP hD hS hl)
theorem nt_isub (X : nt_X cc nL own ret w A p s m args meth c) {x y : Int32} (d : decode cc pc = .ok (.isub, 1)) (k : nt_G p l e R s m args below meth c w A cells slots Q nL (pc + 1) lv (.int (x - y) :: rest) g) : nt_G p l e R s m args below meth c w A cells slots Q nL pc lv (.int y :: .int x :: rest) g := fun H locs ls hP hD hS hl => lv_isub X.1 X.2.1 d (k H locs ls hP hD hS hl)
theorem nt_imul (X : nt_X cc nL own ret w A p s m args meth c) {x y : Int32} (d : decode cc pc = .ok (.imul, 1)) (k : nt_G p l e R s m args below meth c w A cells slots Q nL (pc + 1) lv (.int (x * y) :: rest) g) : nt_G p l e R s m args below meth c w A cells slots Q nL pc lv (.int y :: .int x :: rest) g := fun H locs ls hP hD hS hl => lv_imul X.1 X.2.1 d (k H locs ls hP hD hS hl)
theorem nt_iand (X : nt_X cc nL own ret w A p s m args meth c) {x y : Int32} (d : decode cc pc = .ok (.iand, 1)) (k : nt_G p l e R s m args below meth c w A cells slots Q nL (pc + 1) lv (.int (x &&& y) :: rest) g) : nt_G p l e R s m args below meth c w A cells slots Q nL pc lv (.int y :: .int x :: rest) g := fun H locs ls hP hD hS hl => lv_iand X.1 X.2.1 d (k H locs ls hP hD hS hl)
theorem nt_ior (X : nt_X cc nL own ret w A p s m args meth c) {x y : Int32} (d : decode cc pc = .ok (.ior, 1)) (k : nt_G p l e R s m args below meth c w A cells slots Q nL (pc + 1) lv (.int (x ||| y) :: rest) g) : nt_G p l e R s m args below meth c w A cells slots Q nL pc lv (.int y :: .int x :: rest) g := fun H locs ls hP hD hS hl => lv_ior X.1 X.2.1 d (k H locs ls hP hD hS hl)
theorem nt_ixor (X : nt_X cc nL own ret w A p s m args meth c) {x y : Int32} (d : decode cc pc = .ok (.ixor, 1)) (k : nt_G p l e R s m args below meth c w A cells slots Q nL (pc + 1) lv (.int (x ^^^ y) :: rest) g) : nt_G p l e R s m args below meth c w A cells slots Q nL pc lv (.int y :: .int x :: rest) g := fun H locs ls hP hD hS hl => lv_ixor X.1 X.2.1 d (k H locs ls hP hD hS hl)
theorem nt_ishl (X : nt_X cc nL own ret w A p s m args meth c) {x y : Int32} (d : decode cc pc = .ok (.ishl, 1)) (k : nt_G p l e R s m args below meth c w A cells slots Q nL (pc + 1) lv (.int (x <<< (y &&& 31)) :: rest) g) : nt_G p l e R s m args below meth c w A cells slots Q nL pc lv (.int y :: .int x :: rest) g := fun H locs ls hP hD hS hl => lv_ishl X.1 X.2.1 d (k H locs ls hP hD hS hl)
theorem nt_ishr (X : nt_X cc nL own ret w A p s m args meth c) {x y : Int32} (d : decode cc pc = .ok (.ishr, 1)) (k : nt_G p l e R s m args below meth c w A cells slots Q nL (pc + 1) lv (.int (x >>> (y &&& 31)) :: rest) g) : nt_G p l e R s m args below meth c w A cells slots Q nL pc lv (.int y :: .int x :: rest) g := fun H locs ls hP hD hS hl => lv_ishr X.1 X.2.1 d (k H locs ls hP hD hS hl)
theorem nt_idiv (X : nt_X cc nL own ret w A p s m args meth c) {x y : Int32} (d : decode cc pc = .ok (.idiv, 1)) (hne : ¬ y = 0) (k : nt_G p l e R s m args below meth c w A cells slots Q nL (pc + 1) lv (.int (x / y) :: rest) g) : nt_G p l e R s m args below meth c w A cells slots Q nL pc lv (.int y :: .int x :: rest) g := fun H locs ls hP hD hS hl => lv_idiv X.1 X.2.1 d hne (k H locs ls hP hD hS hl)
theorem nt_irem (X : nt_X cc nL own ret w A p s m args meth c) {x y : Int32} (d : decode cc pc = .ok (.irem, 1)) (hne : ¬ y = 0) (k : nt_G p l e R s m args below meth c w A cells slots Q nL (pc + 1) lv (.int (x - x / y * y) :: rest) g) : nt_G p l e R s m args below meth c w A cells slots Q nL pc lv (.int y :: .int x :: rest) g := fun H locs ls hP hD hS hl => lv_irem X.1 X.2.1 d hne (k H locs ls hP hD hS hl)
theorem nt_ineg (X : nt_X cc nL own ret w A p s m args meth c) {x : Int32} (d : decode cc pc = .ok (.ineg, 1)) (k : nt_G p l e R s m args below meth c w A cells slots Q nL (pc + 1) lv (.int (-x) :: rest) g) : nt_G p l e R s m args below meth c w A cells slots Q nL pc lv (.int x :: rest) g := fun H locs ls hP hD hS hl => lv_ineg X.1 X.2.1 d (k H locs ls hP hD hS hl)
theorem nt_ladd (X : nt_X cc nL own ret w A p s m args meth c) {x y : Int64} (d : decode cc pc = .ok (.ladd, 1)) (k : nt_G p l e R s m args below meth c w A cells slots Q nL (pc + 1) lv (.long (x + y) :: rest) g) : nt_G p l e R s m args below meth c w A cells slots Q nL pc lv (.long y :: .long x :: rest) g := fun H locs ls hP hD hS hl => lv_ladd X.1 X.2.1 d (k H locs ls hP hD hS hl)
theorem nt_lsub (X : nt_X cc nL own ret w A p s m args meth c) {x y : Int64} (d : decode cc pc = .ok (.lsub, 1)) (k : nt_G p l e R s m args below meth c w A cells slots Q nL (pc + 1) lv (.long (x - y) :: rest) g) : nt_G p l e R s m args below meth c w A cells slots Q nL pc lv (.long y :: .long x :: rest) g := fun H locs ls hP hD hS hl => lv_lsub X.1 X.2.1 d (k H locs ls hP hD hS hl)
theorem nt_lmul (X : nt_X cc nL own ret w A p s m args meth c) {x y : Int64} (d : decode cc pc = .ok (.lmul, 1)) (k : nt_G p l e R s m args below meth c w A cells slots Q nL (pc + 1) lv (.long (x * y) :: rest) g) : nt_G p l e R s m args below meth c w A cells slots Q nL pc lv (.long y :: .long x :: rest) g := fun H locs ls hP hD hS hl => lv_lmul X.1 X.2.1 d (k H locs ls hP hD hS hl)
theorem nt_i2l (X : nt_X cc nL own ret w A p s m args meth c) {x : Int32} {v : Int64} (d : decode cc pc = .ok (.i2l, 1)) (hv : x.toInt64 = v) (k : nt_G p l e R s m args below meth c w A cells slots Q nL (pc + 1) lv (.long v :: rest) g) : nt_G p l e R s m args below meth c w A cells slots Q nL pc lv (.int x :: rest) g := fun H locs ls hP hD hS hl => lv_i2l X.1 X.2.1 d hv (k H locs ls hP hD hS hl)
theorem nt_l2i (X : nt_X cc nL own ret w A p s m args meth c) {x : Int64} {v : Int32} (d : decode cc pc = .ok (.l2i, 1)) (hv : x.toInt32 = v) (k : nt_G p l e R s m args below meth c w A cells slots Q nL (pc + 1) lv (.int v :: rest) g) : nt_G p l e R s m args below meth c w A cells slots Q nL pc lv (.long x :: rest) g := fun H locs ls hP hD hS hl => lv_l2i X.1 X.2.1 d hv (k H locs ls hP hD hS hl)
theorem nt_i2b (X : nt_X cc nL own ret w A p s m args meth c) {x v : Int32} (d : decode cc pc = .ok (.i2b, 1)) (hv : x.toInt8.toInt32 = v) (k : nt_G p l e R s m args below meth c w A cells slots Q nL (pc + 1) lv (.int v :: rest) g) : nt_G p l e R s m args below meth c w A cells slots Q nL pc lv (.int x :: rest) g := fun H locs ls hP hD hS hl => lv_i2b X.1 X.2.1 d hv (k H locs ls hP hD hS hl)
theorem nt_i2s (X : nt_X cc nL own ret w A p s m args meth c) {x v : Int32} (d : decode cc pc = .ok (.i2s, 1)) (hv : x.toInt16.toInt32 = v) (k : nt_G p l e R s m args below meth c w A cells slots Q nL (pc + 1) lv (.int v :: rest) g) : nt_G p l e R s m args below meth c w A cells slots Q nL pc lv (.int x :: rest) g := fun H locs ls hP hD hS hl => lv_i2s X.1 X.2.1 d hv (k H locs ls hP hD hS hl)
theorem nt_i2c (X : nt_X cc nL own ret w A p s m args meth c) {x v : Int32} (d : decode cc pc = .ok (.i2c, 1)) (hv : (x.toUInt32 % 65536).toInt32 = v) (k : nt_G p l e R s m args below meth c w A cells slots Q nL (pc + 1) lv (.int v :: rest) g) : nt_G p l e R s m args below meth c w A cells slots Q nL pc lv (.int x :: rest) g := fun H locs ls hP hD hS hl => lv_i2c X.1 X.2.1 d hv (k H locs ls hP hD hS hl)
theorem nt_iushr (X : nt_X cc nL own ret w A p s m args meth c) {x y v : Int32} (d : decode cc pc = .ok (.iushr, 1)) (hv : (x.toUInt32 >>> (y.toUInt32 &&& Int32.toUInt32 31)).toInt32 = v) (k : nt_G p l e R s m args below meth c w A cells slots Q nL (pc + 1) lv (.int v :: rest) g) : nt_G p l e R s m args below meth c w A cells slots Q nL pc lv (.int y :: .int x :: rest) g := fun H locs ls hP hD hS hl => lv_iushr X.1 X.2.1 d hv (k H locs ls hP hD hS hl)
theorem nt_lcmp (X : nt_X cc nL own ret w A p s m args meth c) {x y : Int64} (d : decode cc pc = .ok (.lcmp, 1)) (k : nt_G p l e R s m args below meth c w A cells slots Q nL (pc + 1) lv (.int (lg_cmp x y) :: rest) g) : nt_G p l e R s m args below meth c w A cells slots Q nL pc lv (.long y :: .long x :: rest) g := fun H locs ls hP hD hS hl => W.lcmp X.1 X.2.1 d (k H locs ls hP hD hS hl)
theorem nt_dup (X : nt_X cc nL own ret w A p s m args meth c) {va : Value} (d : decode cc pc = .ok (.dup, 1)) (hva : va.category = 1) (k : nt_G p l e R s m args below meth c w A cells slots Q nL (pc + 1) lv (va :: va :: rest) g) : nt_G p l e R s m args below meth c w A cells slots Q nL pc lv (va :: rest) g := fun H locs ls hP hD hS hl => lv_dup X.1 X.2.1 d hva (k H locs ls hP hD hS hl)
theorem nt_pop (X : nt_X cc nL own ret w A p s m args meth c) {va : Value} (d : decode cc pc = .ok (.pop, 1)) (hva : va.category = 1) (k : nt_G p l e R s m args below meth c w A cells slots Q nL (pc + 1) lv (rest) g) : nt_G p l e R s m args below meth c w A cells slots Q nL pc lv (va :: rest) g := fun H locs ls hP hD hS hl => lv_pop X.1 X.2.1 d hva (k H locs ls hP hD hS hl)
theorem nt_dup2 (X : nt_X cc nL own ret w A p s m args meth c) {va vb : Value} (d : decode cc pc = .ok (.dup2, 1)) (hva : va.category = 1) (hvb : vb.category = 1) (k : nt_G p l e R s m args below meth c w A cells slots Q nL (pc + 1) lv (va :: vb :: va :: vb :: rest) g) : nt_G p l e R s m args below meth c w A cells slots Q nL pc lv (va :: vb :: rest) g := fun H locs ls hP hD hS hl => lv_dup2_11 X.1 X.2.1 d hva hvb (k H locs ls hP hD hS hl)
theorem nt_if_eq (X : nt_X cc nL own ret w A p s m args meth c) {x : Int32} {off : Int} (tgt : Nat) (d : decode cc pc = .ok (.ifCond .eq off, 3)) (ht : (pc : Int) + off = (tgt : Int)) (kt : x = 0 → nt_G p l e R s m args below meth c w A cells slots Q nL tgt lv rest g) (kf : ¬ (x = 0) → nt_G p l e R s m args below meth c w A cells slots Q nL (pc + 3) lv rest g) : nt_G p l e R s m args below meth c w A cells slots Q nL pc lv (.int x :: rest) g := fun H locs ls hP hD hS hl => lv_if_eq X.1 X.2.1 d ht (fun q => kt q H locs ls hP hD hS hl) (fun q => kf q H locs ls hP hD hS hl)
theorem nt_icmp_eq (X : nt_X cc nL own ret w A p s m args meth c) {x y : Int32} {off : Int} (tgt : Nat) (d : decode cc pc = .ok (.if_icmp .eq off, 3)) (ht : (pc : Int) + off = (tgt : Int)) (kt : x = y → nt_G p l e R s m args below meth c w A cells slots Q nL tgt lv rest g) (kf : ¬ (x = y) → nt_G p l e R s m args below meth c w A cells slots Q nL (pc + 3) lv rest g) : nt_G p l e R s m args below meth c w A cells slots Q nL pc lv (.int y :: .int x :: rest) g := fun H locs ls hP hD hS hl => lv_icmp_eq X.1 X.2.1 d ht (fun q => kt q H locs ls hP hD hS hl) (fun q => kf q H locs ls hP hD hS hl)
theorem nt_if_ne (X : nt_X cc nL own ret w A p s m args meth c) {x : Int32} {off : Int} (tgt : Nat) (d : decode cc pc = .ok (.ifCond .ne off, 3)) (ht : (pc : Int) + off = (tgt : Int)) (kt : ¬ x = 0 → nt_G p l e R s m args below meth c w A cells slots Q nL tgt lv rest g) (kf : x = 0 → nt_G p l e R s m args below meth c w A cells slots Q nL (pc + 3) lv rest g) : nt_G p l e R s m args below meth c w A cells slots Q nL pc lv (.int x :: rest) g := fun H locs ls hP hD hS hl => lv_if_ne X.1 X.2.1 d ht (fun q => kt q H locs ls hP hD hS hl) (fun q => kf q H locs ls hP hD hS hl)
theorem nt_icmp_ne (X : nt_X cc nL own ret w A p s m args meth c) {x y : Int32} {off : Int} (tgt : Nat) (d : decode cc pc = .ok (.if_icmp .ne off, 3)) (ht : (pc : Int) + off = (tgt : Int)) (kt : ¬ x = y → nt_G p l e R s m args below meth c w A cells slots Q nL tgt lv rest g) (kf : x = y → nt_G p l e R s m args below meth c w A cells slots Q nL (pc + 3) lv rest g) : nt_G p l e R s m args below meth c w A cells slots Q nL pc lv (.int y :: .int x :: rest) g := fun H locs ls hP hD hS hl => lv_icmp_ne X.1 X.2.1 d ht (fun q => kt q H locs ls hP hD hS hl) (fun q => kf q H locs ls hP hD hS hl)
theorem nt_if_lt (X : nt_X cc nL own ret w A p s m args meth c) {x : Int32} {off : Int} (tgt : Nat) (d : decode cc pc = .ok (.ifCond .lt off, 3)) (ht : (pc : Int) + off = (tgt : Int)) (kt : x < 0 → nt_G p l e R s m args below meth c w A cells slots Q nL tgt lv rest g) (kf : ¬ (x < 0) → nt_G p l e R s m args below meth c w A cells slots Q nL (pc + 3) lv rest g) : nt_G p l e R s m args below meth c w A cells slots Q nL pc lv (.int x :: rest) g := fun H locs ls hP hD hS hl => lv_if_lt X.1 X.2.1 d ht (fun q => kt q H locs ls hP hD hS hl) (fun q => kf q H locs ls hP hD hS hl)
theorem nt_icmp_lt (X : nt_X cc nL own ret w A p s m args meth c) {x y : Int32} {off : Int} (tgt : Nat) (d : decode cc pc = .ok (.if_icmp .lt off, 3)) (ht : (pc : Int) + off = (tgt : Int)) (kt : x < y → nt_G p l e R s m args below meth c w A cells slots Q nL tgt lv rest g) (kf : ¬ (x < y) → nt_G p l e R s m args below meth c w A cells slots Q nL (pc + 3) lv rest g) : nt_G p l e R s m args below meth c w A cells slots Q nL pc lv (.int y :: .int x :: rest) g := fun H locs ls hP hD hS hl => lv_icmp_lt X.1 X.2.1 d ht (fun q => kt q H locs ls hP hD hS hl) (fun q => kf q H locs ls hP hD hS hl)
theorem nt_if_ge (X : nt_X cc nL own ret w A p s m args meth c) {x : Int32} {off : Int} (tgt : Nat) (d : decode cc pc = .ok (.ifCond .ge off, 3)) (ht : (pc : Int) + off = (tgt : Int)) (kt : 0 ≤ x → nt_G p l e R s m args below meth c w A cells slots Q nL tgt lv rest g) (kf : ¬ (0 ≤ x) → nt_G p l e R s m args below meth c w A cells slots Q nL (pc + 3) lv rest g) : nt_G p l e R s m args below meth c w A cells slots Q nL pc lv (.int x :: rest) g := fun H locs ls hP hD hS hl => lv_if_ge X.1 X.2.1 d ht (fun q => kt q H locs ls hP hD hS hl) (fun q => kf q H locs ls hP hD hS hl)
theorem nt_icmp_ge (X : nt_X cc nL own ret w A p s m args meth c) {x y : Int32} {off : Int} (tgt : Nat) (d : decode cc pc = .ok (.if_icmp .ge off, 3)) (ht : (pc : Int) + off = (tgt : Int)) (kt : y ≤ x → nt_G p l e R s m args below meth c w A cells slots Q nL tgt lv rest g) (kf : ¬ (y ≤ x) → nt_G p l e R s m args below meth c w A cells slots Q nL (pc + 3) lv rest g) : nt_G p l e R s m args below meth c w A cells slots Q nL pc lv (.int y :: .int x :: rest) g := fun H locs ls hP hD hS hl => lv_icmp_ge X.1 X.2.1 d ht (fun q => kt q H locs ls hP hD hS hl) (fun q => kf q H locs ls hP hD hS hl)
theorem nt_if_gt (X : nt_X cc nL own ret w A p s m args meth c) {x : Int32} {off : Int} (tgt : Nat) (d : decode cc pc = .ok (.ifCond .gt off, 3)) (ht : (pc : Int) + off = (tgt : Int)) (kt : 0 < x → nt_G p l e R s m args below meth c w A cells slots Q nL tgt lv rest g) (kf : ¬ (0 < x) → nt_G p l e R s m args below meth c w A cells slots Q nL (pc + 3) lv rest g) : nt_G p l e R s m args below meth c w A cells slots Q nL pc lv (.int x :: rest) g := fun H locs ls hP hD hS hl => lv_if_gt X.1 X.2.1 d ht (fun q => kt q H locs ls hP hD hS hl) (fun q => kf q H locs ls hP hD hS hl)
theorem nt_icmp_gt (X : nt_X cc nL own ret w A p s m args meth c) {x y : Int32} {off : Int} (tgt : Nat) (d : decode cc pc = .ok (.if_icmp .gt off, 3)) (ht : (pc : Int) + off = (tgt : Int)) (kt : y < x → nt_G p l e R s m args below meth c w A cells slots Q nL tgt lv rest g) (kf : ¬ (y < x) → nt_G p l e R s m args below meth c w A cells slots Q nL (pc + 3) lv rest g) : nt_G p l e R s m args below meth c w A cells slots Q nL pc lv (.int y :: .int x :: rest) g := fun H locs ls hP hD hS hl => lv_icmp_gt X.1 X.2.1 d ht (fun q => kt q H locs ls hP hD hS hl) (fun q => kf q H locs ls hP hD hS hl)
theorem nt_if_le (X : nt_X cc nL own ret w A p s m args meth c) {x : Int32} {off : Int} (tgt : Nat) (d : decode cc pc = .ok (.ifCond .le off, 3)) (ht : (pc : Int) + off = (tgt : Int)) (kt : x ≤ 0 → nt_G p l e R s m args below meth c w A cells slots Q nL tgt lv rest g) (kf : ¬ (x ≤ 0) → nt_G p l e R s m args below meth c w A cells slots Q nL (pc + 3) lv rest g) : nt_G p l e R s m args below meth c w A cells slots Q nL pc lv (.int x :: rest) g := fun H locs ls hP hD hS hl => lv_if_le X.1 X.2.1 d ht (fun q => kt q H locs ls hP hD hS hl) (fun q => kf q H locs ls hP hD hS hl)
theorem nt_icmp_le (X : nt_X cc nL own ret w A p s m args meth c) {x y : Int32} {off : Int} (tgt : Nat) (d : decode cc pc = .ok (.if_icmp .le off, 3)) (ht : (pc : Int) + off = (tgt : Int)) (kt : x ≤ y → nt_G p l e R s m args below meth c w A cells slots Q nL tgt lv rest g) (kf : ¬ (x ≤ y) → nt_G p l e R s m args below meth c w A cells slots Q nL (pc + 3) lv rest g) : nt_G p l e R s m args below meth c w A cells slots Q nL pc lv (.int y :: .int x :: rest) g := fun H locs ls hP hD hS hl => lv_icmp_le X.1 X.2.1 d ht (fun q => kt q H locs ls hP hD hS hl) (fun q => kf q H locs ls hP hD hS hl)
theorem nt_goto (X : nt_X cc nL own ret w A p s m args meth c) {off : Int} (tgt : Nat) (d : decode cc pc = .ok (.goto off, 3)) (ht : (pc : Int) + off = (tgt : Int)) (k : nt_G p l e R s m args below meth c w A cells slots Q nL tgt lv rest g) : nt_G p l e R s m args below meth c w A cells slots Q nL pc lv rest g := fun H locs ls hP hD hS hl => lv_goto X.1 X.2.1 d ht (k H locs ls hP hD hS hl)
theorem nt_tblOut (X : nt_X cc nL own ret w A p s m args meth c) {dflt lo hi : Int} {offs : Array Int} {len : Nat} {x : Int32} (tgt : Nat) (d : decode cc pc = .ok (.tableswitch dflt lo hi offs, len)) (h : x.toInt < lo ∨ hi < x.toInt) (ht : (pc : Int) + dflt = (tgt : Int)) (k : nt_G p l e R s m args below meth c w A cells slots Q nL tgt lv rest g) : nt_G p l e R s m args below meth c w A cells slots Q nL pc lv (.int x :: rest) g := fun H locs ls hP hD hS hl => lv_tableOut X.1 X.2.1 d h ht (k H locs ls hP hD hS hl)
theorem nt_tblIn (X : nt_X cc nL own ret w A p s m args meth c) {dflt lo hi : Int} {offs : Array Int} {len : Nat} {x : Int32} {off : Int} (tgt : Nat) (d : decode cc pc = .ok (.tableswitch dflt lo hi offs, len)) (h1 : ¬ x.toInt < lo) (h2 : ¬ hi < x.toInt) (ho : offs[(x.toInt - lo).toNat]? = some off) (ht : (pc : Int) + off = (tgt : Int)) (k : nt_G p l e R s m args below meth c w A cells slots Q nL tgt lv rest g) : nt_G p l e R s m args below meth c w A cells slots Q nL pc lv (.int x :: rest) g := fun H locs ls hP hD hS hl => lv_tableIn X.1 X.2.1 d h1 h2 ho ht (k H locs ls hP hD hS hl)
theorem nt_ldc (X : nt_X cc nL own ret w A p s m args meth c) {index : Nat} {v : Int32} (hw : Cond.constant own index v ∈ nt_tbl) (d : decode cc pc = .ok (.ldc index, 2)) (k : nt_G p l e R s m args below meth c w A cells slots Q nL (pc + 2) lv (.int v :: rest) g) : nt_G p l e R s m args below meth c w A cells slots Q nL pc lv rest g := fun H locs ls hP hD hS hl => lv_ldc X.1 X.2.1 X.2.2.2.1 (X.2.2.2.2.1 _ hw) d (k H locs ls hP hD hS hl)
theorem nt_ldcw (X : nt_X cc nL own ret w A p s m args meth c) {index : Nat} {v : Int32} (hw : Cond.constant own index v ∈ nt_tbl) (d : decode cc pc = .ok (.ldc_w index, 3)) (k : nt_G p l e R s m args below meth c w A cells slots Q nL (pc + 3) lv (.int v :: rest) g) : nt_G p l e R s m args below meth c w A cells slots Q nL pc lv rest g := fun H locs ls hP hD hS hl => lv_ldcw X.1 X.2.1 X.2.2.2.1 (X.2.2.2.2.1 _ hw) d (k H locs ls hP hD hS hl)
theorem nt_ldc2 (X : nt_X cc nL own ret w A p s m args meth c) {index : Nat} {v : Int64} (hw : Cond.constantLong own index v ∈ nt_tbl) (d : decode cc pc = .ok (.ldc2_w index, 3)) (k : nt_G p l e R s m args below meth c w A cells slots Q nL (pc + 3) lv (.long v :: rest) g) : nt_G p l e R s m args below meth c w A cells slots Q nL pc lv rest g := fun H locs ls hP hD hS hl => lv_ldc2 X.1 X.2.1 X.2.2.2.1 (X.2.2.2.2.1 _ hw) d (k H locs ls hP hD hS hl)
theorem nt_sub {lv2 : List (Nat × Value)} (ks : List Nat) (h : lv_pick lv ks = lv2) (k : nt_G p l e R s m args below meth c w A cells slots Q nL pc lv2 rest g) : nt_G p l e R s m args below meth c w A cells slots Q nL pc lv rest g := fun H locs ls hP hD hS hl => k H locs ls hP hD hS (lv_sub hl ks h)
theorem nt_topi {x y : Int32} (h : x = y) (k : nt_G p l e R s m args below meth c w A cells slots Q nL pc lv (.int y :: rest) g) : nt_G p l e R s m args below meth c w A cells slots Q nL pc lv (.int x :: rest) g := h ▸ k
theorem nt_topl {x y : Int64} (h : x = y) (k : nt_G p l e R s m args below meth c w A cells slots Q nL pc lv (.long y :: rest) g) : nt_G p l e R s m args below meth c w A cells slots Q nL pc lv (.long x :: rest) g := h ▸ k
theorem nt_geq {g2 : nt_T} (h : g = g2) (k : nt_G p l e R s m args below meth c w A cells slots Q nL pc lv rest g2) : nt_G p l e R s m args below meth c w A cells slots Q nL pc lv rest g := h ▸ k
theorem nt_eq {lv2 : List (Nat × Value)} {rest2 : List Value} {g2 : nt_T} (h1 : lv = lv2) (h2 : rest = rest2) (h3 : g = g2) (k : nt_G p l e R s m args below meth c w A cells slots Q nL pc lv2 rest2 g2) : nt_G p l e R s m args below meth c w A cells slots Q nL pc lv rest g := by
  subst h1; subst h2; subst h3; exact k
theorem nt_get (X : nt_X cc nL own ret w A p s m args meth c) {C : String} {T : u_T} {N ci index j : Nat} {tp : (Nat → Int32) → List Value} (k0 : Nat) (hin : ∀ q ∈ u_ws C T N, q ∈ nt_tbl) (hn : k0 < nt_n w) (hE : nt_E w k0 = fun f => .inr (ci, tp f)) (hc : vwCl[ci]? = some (C, T, N)) (hj : j < N) (hlk : Cond.fieldLink own index (T j).1 (T j).2.1 (T j).2.2.1 ∈ nt_tbl) {v : Value} (hv : (tp (g k0))[j]? = some v) (d : decode cc pc = .ok (.getfield index, 3)) (k : nt_G p l e R s m args below meth c w A cells slots Q nL (pc + 3) lv (v :: rest) g) : nt_G p l e R s m args below meth c w A cells slots Q nL pc lv (.ref (nt_a w k0) :: rest) g := by
  intro H locs ls hP hD hS hl
  have he : (nt_W w g)[k0]? = some (nt_a w k0, .inr (ci, tp (g k0))) := by rw [nt_W_at hn, hE]
  exact va_get X.1 X.2.1 X.2.2.2.2.1 hin X.2.2.2.1 X.2.2.2.2.2.2.2.1 hP k0 he hc j hj (X.2.2.2.2.1 _ hlk) (fun _ h => h) hv d (k H locs ls hP hD hS hl)
theorem nt_put (X : nt_X cc nL own ret w A p s m args meth c) {C : String} {T : u_T} {N ci index j : Nat} {tp : (Nat → Int32) → List Value} (k0 : Nat) (hin : ∀ q ∈ u_ws C T N, q ∈ nt_tbl) (hn : k0 < nt_n w) (hE : nt_E w k0 = fun f => .inr (ci, tp f)) (hc : vwCl[ci]? = some (C, T, N)) (hj : j < N) (hlk : Cond.fieldLink own index (T j).1 (T j).2.1 (T j).2.2.1 ∈ nt_tbl) (ty0 : Nat → FieldType) (hty : ∀ k, k < N → parseFieldDescriptor (T k).2.2.1 = some (ty0 k)) (hnm : ∀ a, a < N → ∀ b, b < N → a ≠ b → (T a).2.1 ≠ (T b).2.1) (hfin : (T j).2.2.2 = false) {ty : FieldType} {v : Int32} (hd : parseFieldDescriptor (T j).2.2.1 = some ty) (hnr : narrow ty (.int v) = .int v) (hfit : fits ty (.int v) = true) (hlen : ∀ f, j < (tp f).length) (hs : ∀ f : Nat → Int32, (tp f).set j (.int v) = tp (upd f j v)) (d : decode cc pc = .ok (.putfield index, 3)) (k : nt_G p l e R s m args below meth c w A cells slots Q nL (pc + 3) lv rest (nt_st g k0 j v)) : nt_G p l e R s m args below meth c w A cells slots Q nL pc lv (.int v :: .ref (nt_a w k0) :: rest) g := by
  intro H locs ls hP hD hS hl
  have he : (nt_W w g)[k0]? = some (nt_a w k0, .inr (ci, tp (g k0))) := by rw [nt_W_at hn, hE]
  refine va_put X.1 X.2.1 X.2.2.2.2.1 hin ty0 hty hnm X.2.2.2.1 X.2.2.2.2.2.2.2.1 hP hD hS k0 he hc j hj (X.2.2.2.2.1 _ hlk) (fun _ h => h) hfin hd hnr hfit (hlen _) d (fun H1 locs1 hP1 hD1 hS1 => ?_)
  have e2 : (nt_W w g).set k0 (nt_a w k0, .inr (ci, (tp (g k0)).set j (.int v))) = nt_W w (nt_st g k0 j v) := by
    rw [nt_st, ← nt_W_set hn, hE, hs]
  rw [e2] at hP1 hD1
  exact k H1 locs1 ls hP1 hD1 hS1 hl
theorem nt_getN (X : nt_X cc nL own ret w A p s m args meth c) {host : String} {C : String} {T : u_T} {N ci index j : Nat} {tp : (Nat → Int32) → List Value} (k0 : Nat) (hin : ∀ q ∈ u_ws C T N, q ∈ nt_tbl) (hn : k0 < nt_n w) (hE : nt_E w k0 = fun f => .inr (ci, tp f)) (hc : vwCl[ci]? = some (C, T, N)) (hj : j < N) (hlk : (own, index, (T j).1, (T j).2.1, (T j).2.2.1, host) ∈ nt_nestF) {v : Value} (hv : (tp (g k0))[j]? = some v) (d : decode cc pc = .ok (.getfield index, 3)) (k : nt_G p l e R s m args below meth c w A cells slots Q nL (pc + 3) lv (v :: rest) g) : nt_G p l e R s m args below meth c w A cells slots Q nL pc lv (.ref (nt_a w k0) :: rest) g := by
  intro H locs ls hP hD hS hl
  have he : (nt_W w g)[k0]? = some (nt_a w k0, .inr (ci, tp (g k0))) := by rw [nt_W_at hn, hE]
  exact va_getN X.1 X.2.1 X.2.2.2.2.1 hin X.2.2.2.1 X.2.2.2.2.2.2.2.1 hP k0 he hc j hj (va_Nw.use rfl (X.2.2.2.2.2.2.2.2.2.1.1 _ hlk)) (fun _ h => h) hv d (k H locs ls hP hD hS hl)
theorem nt_putN (X : nt_X cc nL own ret w A p s m args meth c) {host : String} {C : String} {T : u_T} {N ci index j : Nat} {tp : (Nat → Int32) → List Value} (k0 : Nat) (hin : ∀ q ∈ u_ws C T N, q ∈ nt_tbl) (hn : k0 < nt_n w) (hE : nt_E w k0 = fun f => .inr (ci, tp f)) (hc : vwCl[ci]? = some (C, T, N)) (hj : j < N) (hlk : (own, index, (T j).1, (T j).2.1, (T j).2.2.1, host) ∈ nt_nestF) (ty0 : Nat → FieldType) (hty : ∀ k, k < N → parseFieldDescriptor (T k).2.2.1 = some (ty0 k)) (hnm : ∀ a, a < N → ∀ b, b < N → a ≠ b → (T a).2.1 ≠ (T b).2.1) (hfin : (T j).2.2.2 = false) {ty : FieldType} {v : Int32} (hd : parseFieldDescriptor (T j).2.2.1 = some ty) (hnr : narrow ty (.int v) = .int v) (hfit : fits ty (.int v) = true) (hlen : ∀ f, j < (tp f).length) (hs : ∀ f : Nat → Int32, (tp f).set j (.int v) = tp (upd f j v)) (d : decode cc pc = .ok (.putfield index, 3)) (k : nt_G p l e R s m args below meth c w A cells slots Q nL (pc + 3) lv rest (nt_st g k0 j v)) : nt_G p l e R s m args below meth c w A cells slots Q nL pc lv (.int v :: .ref (nt_a w k0) :: rest) g := by
  intro H locs ls hP hD hS hl
  have he : (nt_W w g)[k0]? = some (nt_a w k0, .inr (ci, tp (g k0))) := by rw [nt_W_at hn, hE]
  refine va_putN X.1 X.2.1 X.2.2.2.2.1 hin ty0 hty hnm X.2.2.2.1 X.2.2.2.2.2.2.2.1 hP hD hS k0 he hc j hj (va_Nw.use rfl (X.2.2.2.2.2.2.2.2.2.1.1 _ hlk)) (fun _ h => h) hfin hd hnr hfit (hlen _) d (fun H1 locs1 hP1 hD1 hS1 => ?_)
  have e2 : (nt_W w g).set k0 (nt_a w k0, .inr (ci, (tp (g k0)).set j (.int v))) = nt_W w (nt_st g k0 j v) := by
    rw [nt_st, ← nt_W_set hn, hE, hs]
  rw [e2] at hP1 hD1
  exact k H1 locs1 ls hP1 hD1 hS1 hl
theorem nt_putL (X : nt_X cc nL own ret w A p s m args meth c) {C : String} {T : u_T} {N ci index j : Nat} {tp : (Nat → Int32) → List Value} (k0 : Nat) (hin : ∀ q ∈ u_ws C T N, q ∈ nt_tbl) (hn : k0 < nt_n w) (hE : nt_E w k0 = fun f => .inr (ci, tp f)) (hc : vwCl[ci]? = some (C, T, N)) (hj : j < N) (hlk : Cond.fieldLink own index (T j).1 (T j).2.1 (T j).2.2.1 ∈ nt_tbl) (ty0 : Nat → FieldType) (hty : ∀ k, k < N → parseFieldDescriptor (T k).2.2.1 = some (ty0 k)) (hnm : ∀ a, a < N → ∀ b, b < N → a ≠ b → (T a).2.1 ≠ (T b).2.1) (hfin : (T j).2.2.2 = false) {v : Int64} (hd : parseFieldDescriptor (T j).2.2.1 = some .long) (h1 h2 : Nat) (hlen : ∀ f, j < (tp f).length) (hs : ∀ f : Nat → Int32, (tp f).set j (.long v) = tp (upd (upd f h1 (nt_hi v)) h2 (nt_lo v))) (d : decode cc pc = .ok (.putfield index, 3)) (k : nt_G p l e R s m args below meth c w A cells slots Q nL (pc + 3) lv rest (nt_sc g k0 (upd (upd (g k0) h1 (nt_hi v)) h2 (nt_lo v)))) : nt_G p l e R s m args below meth c w A cells slots Q nL pc lv (.long v :: .ref (nt_a w k0) :: rest) g := by
  intro H locs ls hP hD hS hl
  have he : (nt_W w g)[k0]? = some (nt_a w k0, .inr (ci, tp (g k0))) := by rw [nt_W_at hn, hE]
  refine va_put X.1 X.2.1 X.2.2.2.2.1 hin ty0 hty hnm X.2.2.2.1 X.2.2.2.2.2.2.2.1 hP hD hS k0 he hc j hj (X.2.2.2.2.1 _ hlk) (fun _ h => h) hfin hd rfl rfl (hlen _) d (fun H1 locs1 hP1 hD1 hS1 => ?_)
  have e2 : (nt_W w g).set k0 (nt_a w k0, .inr (ci, (tp (g k0)).set j (.long v))) = nt_W w (nt_sc g k0 (upd (upd (g k0) h1 (nt_hi v)) h2 (nt_lo v))) := by
    rw [← nt_W_set hn, hE, hs]
  rw [e2] at hP1 hD1
  exact k H1 locs1 ls hP1 hD1 hS1 hl
theorem nt_iald (X : nt_X cc nL own ret w A p s m args meth c) (k0 t0 : Nat) {cA : ClassId} {len : Nat} (hn : k0 < nt_n w) (hE : nt_E w k0 = fun f => .inl (cA, len, .inl f)) (ht : w.2.1[t0]? = some (cA, .int)) {i : Int32} (hi : nt_in i len = true) (d : decode cc pc = .ok (.iaload, 1)) (k : nt_G p l e R s m args below meth c w A cells slots Q nL (pc + 1) lv (.int (g k0 i.toNatClampNeg) :: rest) g) : nt_G p l e R s m args below meth c w A cells slots Q nL pc lv (.int i :: .ref (nt_a w k0) :: rest) g := by
  intro H locs ls hP hD hS hl
  have he : (nt_W w g)[k0]? = some (nt_a w k0, .inl (cA, len, .inl (g k0))) := by rw [nt_W_at hn, hE]
  exact va_iald X.1 X.2.1 X.2.2.2.2.2.2.2.1 hP k0 t0 he ht (nt_in_vp hi) d (k H locs ls hP hD hS hl)
theorem nt_iast (X : nt_X cc nL own ret w A p s m args meth c) (k0 t0 : Nat) {cA : ClassId} {len : Nat} (hn : k0 < nt_n w) (hE : nt_E w k0 = fun f => .inl (cA, len, .inl f)) (ht : w.2.1[t0]? = some (cA, .int)) {i v : Int32} (hi : nt_in i len = true) (d : decode cc pc = .ok (.iastore, 1)) (k : nt_G p l e R s m args below meth c w A cells slots Q nL (pc + 1) lv rest (nt_st g k0 i.toNatClampNeg v)) : nt_G p l e R s m args below meth c w A cells slots Q nL pc lv (.int v :: .int i :: .ref (nt_a w k0) :: rest) g := by
  intro H locs ls hP hD hS hl
  have he : (nt_W w g)[k0]? = some (nt_a w k0, .inl (cA, len, .inl (g k0))) := by rw [nt_W_at hn, hE]
  refine va_iast X.1 X.2.1 X.2.2.2.2.2.2.2.1 hP hD hS k0 t0 he ht (nt_in_vp hi) d (fun H1 locs1 hP1 hD1 hS1 => ?_)
  have e2 : (nt_W w g).set k0 (nt_a w k0, .inl (cA, len, .inl (upd (g k0) i.toNatClampNeg v))) = nt_W w (nt_st g k0 i.toNatClampNeg v) := by
    rw [nt_st, ← nt_W_set hn, hE]
  rw [e2] at hP1 hD1
  exact k H1 locs1 ls hP1 hD1 hS1 hl
theorem nt_zald (X : nt_X cc nL own ret w A p s m args meth c) (k0 t0 : Nat) {cA : ClassId} {len : Nat} (hn : k0 < nt_n w) (hE : nt_E w k0 = fun f => .inl (cA, len, .inl f)) (ht : w.2.1[t0]? = some (cA, .boolean)) {i : Int32} (hi : nt_in i len = true) (d : decode cc pc = .ok (.baload, 1)) (k : nt_G p l e R s m args below meth c w A cells slots Q nL (pc + 1) lv (.int (g k0 i.toNatClampNeg) :: rest) g) : nt_G p l e R s m args below meth c w A cells slots Q nL pc lv (.int i :: .ref (nt_a w k0) :: rest) g := by
  intro H locs ls hP hD hS hl
  have he : (nt_W w g)[k0]? = some (nt_a w k0, .inl (cA, len, .inl (g k0))) := by rw [nt_W_at hn, hE]
  exact va_zald X.1 X.2.1 X.2.2.2.2.2.2.2.1 hP k0 t0 he ht (nt_in_vp hi) d (k H locs ls hP hD hS hl)
theorem nt_zast (X : nt_X cc nL own ret w A p s m args meth c) (k0 t0 : Nat) {cA : ClassId} {len : Nat} (hn : k0 < nt_n w) (hE : nt_E w k0 = fun f => .inl (cA, len, .inl f)) (ht : w.2.1[t0]? = some (cA, .boolean)) {i v : Int32} (hi : nt_in i len = true) (d : decode cc pc = .ok (.bastore, 1)) (k : nt_G p l e R s m args below meth c w A cells slots Q nL (pc + 1) lv rest (nt_st g k0 i.toNatClampNeg (vp_nar .boolean v))) : nt_G p l e R s m args below meth c w A cells slots Q nL pc lv (.int v :: .int i :: .ref (nt_a w k0) :: rest) g := by
  intro H locs ls hP hD hS hl
  have he : (nt_W w g)[k0]? = some (nt_a w k0, .inl (cA, len, .inl (g k0))) := by rw [nt_W_at hn, hE]
  refine va_zast X.1 X.2.1 X.2.2.2.2.2.2.2.1 hP hD hS k0 t0 he ht (nt_in_vp hi) d (fun H1 locs1 hP1 hD1 hS1 => ?_)
  have e2 : (nt_W w g).set k0 (nt_a w k0, .inl (cA, len, .inl (upd (g k0) i.toNatClampNeg (vp_nar .boolean v)))) = nt_W w (nt_st g k0 i.toNatClampNeg (vp_nar .boolean v)) := by
    rw [nt_st, ← nt_W_set hn, hE]
  rw [e2] at hP1 hD1
  exact k H1 locs1 ls hP1 hD1 hS1 hl
theorem nt_alen (X : nt_X cc nL own ret w A p s m args meth c) (k0 t0 : Nat) {cA : ClassId} {len : Nat} (hn : k0 < nt_n w) (hE : nt_E w k0 = fun f => .inl (cA, len, .inl f)) {ty : FieldType} (ht : w.2.1[t0]? = some (cA, ty)) {v : Int32} (hv : Int32.ofNat len = v) (d : decode cc pc = .ok (.arraylength, 1)) (k : nt_G p l e R s m args below meth c w A cells slots Q nL (pc + 1) lv (.int v :: rest) g) : nt_G p l e R s m args below meth c w A cells slots Q nL pc lv (.ref (nt_a w k0) :: rest) g := by
  intro H locs ls hP hD hS hl
  have he : (nt_W w g)[k0]? = some (nt_a w k0, .inl (cA, len, .inl (g k0))) := by rw [nt_W_at hn, hE]
  exact va_alen X.1 X.2.1 X.2.2.2.2.2.2.2.1 hP k0 t0 he ht hv d (k H locs ls hP hD hS hl)
def nt_cpok (sp dp n : Int32) (n0 n1 : Nat) : Bool := decide (¬ sp < 0) && (decide (¬ dp < 0) && (decide (¬ n < 0) && (decide (sp.toNatClampNeg + n.toNatClampNeg ≤ n0) && decide (dp.toNatClampNeg + n.toNatClampNeg ≤ n1))))
theorem nt_copy (X : nt_X cc nL own ret w A p s m args meth c) {index : Nat} (hw : Cond.methodLink own index arraycopyName ∈ nt_tbl) (hwn : Cond.native arraycopyName ∈ nt_tbl) (hws : Cond.static arraycopyName ∈ nt_tbl) (hwi : Cond.initialized "java/lang/System" ∈ nt_tbl) (k0 k1 t0 : Nat) {cA : ClassId} {len0 len1 : Nat} (hn0 : k0 < nt_n w) (hE0 : nt_E w k0 = fun f => .inl (cA, len0, .inl f)) (hn1 : k1 < nt_n w) (hE1 : nt_E w k1 = fun f => .inl (cA, len1, .inl f)) (ht : w.2.1[t0]? = some (cA, .int)) {sp dp n : Int32} (hc : nt_cpok sp dp n len0 len1 = true) (hR : 1 ≤ R.frames ∧ (rest.map fun v => v.category).sum + (nativeFrameWords "java/lang/System" "arraycopy" 5 + 11) ≤ R.locals) (d : decode cc pc = .ok (.invokestatic index, 3)) (k : nt_G p l e R s m args below meth c w A cells slots Q nL (pc + 3) lv rest (nt_sc g k1 (va_cpy (g k0) (g k1) sp.toNatClampNeg dp.toNatClampNeg n.toNatClampNeg))) : nt_G p l e R s m args below meth c w A cells slots Q nL pc lv (.int n :: .int dp :: .ref (nt_a w k1) :: .int sp :: .ref (nt_a w k0) :: rest) g := by
  intro H locs ls hP hD hS hl
  have he0 : (nt_W w g)[k0]? = some (nt_a w k0, .inl (cA, len0, .inl (g k0))) := by rw [nt_W_at hn0, hE0]
  have he1 : (nt_W w g)[k1]? = some (nt_a w k1, .inl (cA, len1, .inl (g k1))) := by rw [nt_W_at hn1, hE1]
  simp only [nt_cpok, Bool.and_eq_true, decide_eq_true_eq] at hc
  obtain ⟨h1, h2, h3, h4, h5⟩ := hc
  refine va_copyi X.1 X.2.1 (X.2.2.1.trans hl.1.symm) X.2.2.2.1 (X.2.2.2.2.1 _ hw) (X.2.2.2.2.1 _ hwn) (X.2.2.2.2.1 _ hws) (X.2.2.2.2.1 _ hwi) X.2.2.2.2.2.2.2.1 hP hD hS k0 k1 t0 t0 he0 he1 ht ht rfl h1 h2 h3 h4 h5 (fun _ _ => rfl) hR.1 hR.2 d (fun H1 locs1 hP1 hD1 hS1 => ?_)
  have e2 : (nt_W w g).set k1 (nt_a w k1, .inl (cA, len1, .inl (va_cpy (g k0) (g k1) sp.toNatClampNeg dp.toNatClampNeg n.toNatClampNeg))) = nt_W w (nt_sc g k1 (va_cpy (g k0) (g k1) sp.toNatClampNeg dp.toNatClampNeg n.toNatClampNeg)) := by
    rw [← nt_W_set hn1, hE1]
  rw [e2] at hP1 hD1
  exact k H1 locs1 ls hP1 hD1 hS1 hl
theorem nt_mmax (X : nt_X cc nL own ret w A p s m args meth c) {index : Nat} (hw : Cond.methodLink own index Lib.Math.max.name ∈ nt_tbl) (hws : Cond.static Lib.Math.max.name ∈ nt_tbl) (hwi : Cond.initialized "java/lang/Math" ∈ nt_tbl) (hwc : Cond.code Lib.Math.max.name Lib.Math.max.code 2 (some .int) ∈ nt_tbl) (hR : 1 ≤ R.frames ∧ (rest.map fun v => v.category).sum + 13 ≤ R.locals) (hcs : cells ≤ R.cells ∧ slots ≤ R.slots) {x y : Int32} (d : decode cc pc = .ok (.invokestatic index, 3)) (k : nt_G p l e R s m args below meth c w A cells slots Q nL (pc + 3) lv (.int (if x < y then y else x) :: rest) g) : nt_G p l e R s m args below meth c w A cells slots Q nL pc lv (.int y :: .int x :: rest) g := fun H locs ls hP hD hS hl => va_mmax X.1 X.2.1 (X.2.2.1.trans hl.1.symm) X.2.2.2.1 (X.2.2.2.2.1 _ hw) (X.2.2.2.2.1 _ hws) (X.2.2.2.2.1 _ hwi) (X.2.2.2.2.1 _ hwc) hR.1 hR.2 hcs.1 hcs.2 d (k H locs ls hP hD hS hl)
theorem nt_mmin (X : nt_X cc nL own ret w A p s m args meth c) {index : Nat} (hw : Cond.methodLink own index Lib.Math.min.name ∈ nt_tbl) (hws : Cond.static Lib.Math.min.name ∈ nt_tbl) (hwi : Cond.initialized "java/lang/Math" ∈ nt_tbl) (hwc : Cond.code Lib.Math.min.name Lib.Math.min.code 2 (some .int) ∈ nt_tbl) (hR : 1 ≤ R.frames ∧ (rest.map fun v => v.category).sum + 13 ≤ R.locals) (hcs : cells ≤ R.cells ∧ slots ≤ R.slots) {x y : Int32} (d : decode cc pc = .ok (.invokestatic index, 3)) (k : nt_G p l e R s m args below meth c w A cells slots Q nL (pc + 3) lv (.int (if y < x then y else x) :: rest) g) : nt_G p l e R s m args below meth c w A cells slots Q nL pc lv (.int y :: .int x :: rest) g := fun H locs ls hP hD hS hl => va_mmin X.1 X.2.1 (X.2.2.1.trans hl.1.symm) X.2.2.2.1 (X.2.2.2.2.1 _ hw) (X.2.2.2.2.1 _ hws) (X.2.2.2.2.1 _ hwi) (X.2.2.2.2.1 _ hwc) hR.1 hR.2 hcs.1 hcs.2 d (k H locs ls hP hD hS hl)
theorem nt_blind {av : List Value} {sz : Nat} : FrameBlind (va_Pc av (nt_P w g sz)) := by
  intro a U gf mk q
  obtain ⟨q0, q1, q2, q3, q4, q5⟩ := q
  exact ⟨q0, q1, q2, va_K.moved (u := U) (U := U.calling gf mk a) (Vm.Alike.refl U.vm) q3, q4, nt_Z_blind q5⟩
theorem nt_sub_A {H : Heap} {locs : List Loc} (X : nt_X cc nL own ret w A p s m args meth c) (hD : va_D A (nt_W w g)) (hS : va_S A s.heap H locs) : ∀ q, va_A (nt_W w g) H.size q → A q := by
  intro q h
  rcases h with ⟨k, e, h⟩ | h
  · exact hD.2 k _ h
  · exact X.2.2.2.2.2.2.2.2.1 q (Nat.le_trans hS.1 h)
theorem nt_pre {H : Heap} {locs : List Loc} (X : nt_X cc nL own ret w A p s m args meth c) (hP : va_P w.1 vwCl (nt_W w g) H) (hD : va_D A (nt_W w g)) (hS : va_S A s.heap H locs) (av : List Value) : ∀ U : State, U.heap = H → s.WarmedH U.vm → va_Pc av (nt_P w g H.size) av.toArray U := by
  intro U hU hW
  refine ⟨rfl, by rw [hU], by rw [hU]; exact hP, va_K.moved hW.alike X.2.2.2.2.2.2.2.1, hD.weaken (fun _ _ _ _ => trivial), ?_⟩
  rw [hU]
  exact nt_Z_go X.2.2.2.2.2.2.2.2.2 hW (nt_sub_A X hD hS) hS
theorem nt_cVi (X : nt_X cc nL own ret w A p s m args meth c) {y : MethodName} {bytes : ByteArray} {maxL dp index : Nat} {rt : Option FieldType} {As stk : List Value} {r : Int32} {g2 : nt_T} (k0 : Nat) {C : String} {T : u_T} {N ci : Nat} {tp : (Nat → Int32) → List Value} (hn : k0 < nt_n w) (hE : nt_E w k0 = fun f => .inr (ci, tp f)) (hc : vwCl[ci]? = some (C, T, N)) (hM : nt_Mi l w y bytes maxL rt dp (.ref (nt_a w k0) :: As) g r g2) (hw0 : Cond.code y bytes maxL rt ∈ nt_tbl) (hw1 : Cond.methodLink own index y ∈ nt_tbl) (hw2 : Cond.instanceMethod y ∈ nt_tbl) (hw3 : Cond.selects C y y ∈ nt_tbl) (hw4 : Cond.initialized C ∈ nt_tbl) (hC : y.cls = C) (hd : y.cls ≠ "java/lang/invoke/MethodHandle" ∧ y.cls ≠ "java/lang/invoke/VarHandle" ∧ (parseMethodDescriptor y.desc).map (fun d => d.parameters.length) = some As.length) (hR : dp + 1 ≤ R.frames ∧ 8 + (maxL + 11) + 60 * dp ≤ R.locals) (hcs : cells ≤ R.cells ∧ slots ≤ R.slots) (hrs : (rest.map fun v => v.category).sum ≤ 8) (hst : stk = As.reverse ++ .ref (nt_a w k0) :: rest) (d : decode cc pc = .ok (.invokevirtual index, 3)) (k : nt_G p l e R s m args below meth c w A cells slots Q nL (pc + 3) lv (.int r :: rest) g2) : nt_G p l e R s m args below meth c w A cells slots Q nL pc lv stk g := by
  intro H locs ls hP hD hS hl
  subst hst
  have he : (nt_W w g)[k0]? = some (nt_a w k0, .inr (ci, tp (g k0))) := by rw [nt_W_at hn, hE]
  have hFc := nt_sub_A X hD hS
  have hGd : GoodIn nt_tbl (wsV own index C y (nt_ws y bytes maxL rt)) := by
    intro q hq
    rcases List.mem_append.mp hq with h | h
    · have hm : q ∈ nt_tbl := by
        rcases List.mem_cons.mp h with rfl | h
        · exact hw1
        rcases List.mem_cons.mp h with rfl | h
        · exact hw2
        rcases List.mem_cons.mp h with rfl | h
        · exact hw3
        rcases List.mem_cons.mp h with rfl | h
        · exact hw4
        cases h
      exact ⟨hm, good_of_word (nt_good q hm)⟩
    · exact nt_ws_good hw0 q h
  refine va_calli (va_runV (As := As) (rest := rest) (C := C) ⟨X.1, X.2.1, X.2.2.1, X.2.2.2.1, X.2.2.2.2.1⟩ (hM H.size) (cwV As.length X.2.2.2.2.1 hGd rfl rfl rfl ⟨hC, hd⟩ hR) ⟨nt_blind, va_recv X.2.2.2.2.2.2.2.1 hP hc he, nt_pre X hP hD hS _⟩ rfl rfl hl.1 rfl (lv_room hrs) d hcs) hS (fun q _ h => hFc q h) hFc (fun r1 u t H1 locs1 ht hvm hw hB hz1 hk1 hS1 => ?_)
  obtain ⟨rfl, rfl⟩ := hw
  refine k H1 locs1 ls ?_ (nt_W_dom hD) hS1 hl
  rw [← ht]
  exact hB
theorem nt_cVNi (X : nt_X cc nL own ret w A p s m args meth c) {y : MethodName} {bytes : ByteArray} {maxL dp index : Nat} {rt : Option FieldType} {As stk : List Value} {r : Int32} {g2 : nt_T} {host : String} (k0 : Nat) {C : String} {T : u_T} {N ci : Nat} {tp : (Nat → Int32) → List Value} (hn : k0 < nt_n w) (hE : nt_E w k0 = fun f => .inr (ci, tp f)) (hc : vwCl[ci]? = some (C, T, N)) (hM : nt_Mi l w y bytes maxL rt dp (.ref (nt_a w k0) :: As) g r g2) (hw0 : Cond.code y bytes maxL rt ∈ nt_tbl) (hw1 : (own, index, y, host) ∈ nt_nestM) (hw2 : Cond.instanceMethod y ∈ nt_tbl) (hw3 : Cond.selects C y y ∈ nt_tbl) (hw4 : Cond.initialized y.cls ∈ nt_tbl) (hd : y.cls ≠ "java/lang/invoke/MethodHandle" ∧ y.cls ≠ "java/lang/invoke/VarHandle" ∧ (parseMethodDescriptor y.desc).map (fun d => d.parameters.length) = some As.length) (hR : dp + 1 ≤ R.frames ∧ 8 + (maxL + 11) + 60 * dp ≤ R.locals) (hcs : cells ≤ R.cells ∧ slots ≤ R.slots) (hrs : (rest.map fun v => v.category).sum ≤ 8) (hst : stk = As.reverse ++ .ref (nt_a w k0) :: rest) (d : decode cc pc = .ok (.invokevirtual index, 3)) (k : nt_G p l e R s m args below meth c w A cells slots Q nL (pc + 3) lv (.int r :: rest) g2) : nt_G p l e R s m args below meth c w A cells slots Q nL pc lv stk g := by
  intro H locs ls hP hD hS hl
  subst hst
  have he : (nt_W w g)[k0]? = some (nt_a w k0, .inr (ci, tp (g k0))) := by rw [nt_W_at hn, hE]
  have hFc := nt_sub_A X hD hS
  refine va_calli (va_runVN (As := As) (rest := rest) (C := C) ⟨X.1, X.2.1, X.2.2.1, X.2.2.2.1, X.2.2.2.2.1⟩ (hM H.size) ⟨va_cnB As.length X.2.2.2.2.1 (nt_ws_good hw0) rfl rfl rfl (X.2.2.2.2.2.2.2.2.2.1.2 _ hw1) (X.2.2.2.2.1 _ hw4) hd hR, X.2.2.2.2.1 _ hw2, X.2.2.2.2.1 _ hw3⟩ ⟨nt_blind, va_recv X.2.2.2.2.2.2.2.1 hP hc he, nt_pre X hP hD hS _⟩ rfl rfl hl.1 rfl (lv_room hrs) d hcs) hS (fun q _ h => hFc q h) hFc (fun r1 u t H1 locs1 ht hvm hw hB hz1 hk1 hS1 => ?_)
  obtain ⟨rfl, rfl⟩ := hw
  refine k H1 locs1 ls ?_ (nt_W_dom hD) hS1 hl
  rw [← ht]
  exact hB
theorem nt_cSi (X : nt_X cc nL own ret w A p s m args meth c) {y : MethodName} {bytes : ByteArray} {maxL dp index : Nat} {rt : Option FieldType} {As stk : List Value} {r : Int32} {g2 : nt_T} (hM : nt_Mi l w y bytes maxL rt dp As g r g2) (hw0 : Cond.code y bytes maxL rt ∈ nt_tbl) (hw1 : Cond.methodLink own index y ∈ nt_tbl) (hw2 : Cond.static y ∈ nt_tbl) (hw4 : Cond.initialized y.cls ∈ nt_tbl) (hd : y.cls ≠ "java/lang/invoke/MethodHandle" ∧ y.cls ≠ "java/lang/invoke/VarHandle" ∧ (parseMethodDescriptor y.desc).map (fun d => d.parameters.length) = some As.length) (hR : dp + 1 ≤ R.frames ∧ 8 + (maxL + 11) + 60 * dp ≤ R.locals) (hcs : cells ≤ R.cells ∧ slots ≤ R.slots) (hrs : (rest.map fun v => v.category).sum ≤ 8) (hst : stk = As.reverse ++ rest) (d : decode cc pc = .ok (.invokestatic index, 3)) (k : nt_G p l e R s m args below meth c w A cells slots Q nL (pc + 3) lv (.int r :: rest) g2) : nt_G p l e R s m args below meth c w A cells slots Q nL pc lv stk g := by
  intro H locs ls hP hD hS hl
  subst hst
  have hFc := nt_sub_A X hD hS
  refine va_calli (va_runS (As := As) (rest := rest) ⟨X.1, X.2.1, X.2.2.1, X.2.2.2.1, X.2.2.2.2.1⟩ (hM H.size) ⟨callB_of As.length X.2.2.2.2.1 (nt_ws_good hw0) rfl rfl rfl (X.2.2.2.2.1 _ hw4) (X.2.2.2.2.1 _ hw1) hd hR, X.2.2.2.2.1 _ hw2⟩ ⟨nt_blind, nt_pre X hP hD hS _⟩ rfl rfl hl.1 rfl (lv_room hrs) d hcs) hS (fun q _ h => hFc q h) hFc (fun r1 u t H1 locs1 ht hvm hw hB hz1 hk1 hS1 => ?_)
  obtain ⟨rfl, rfl⟩ := hw
  refine k H1 locs1 ls ?_ (nt_W_dom hD) hS1 hl
  rw [← ht]
  exact hB
theorem nt_cSNi (X : nt_X cc nL own ret w A p s m args meth c) {y : MethodName} {bytes : ByteArray} {maxL dp index : Nat} {rt : Option FieldType} {As stk : List Value} {r : Int32} {g2 : nt_T} {host : String} (hM : nt_Mi l w y bytes maxL rt dp As g r g2) (hw0 : Cond.code y bytes maxL rt ∈ nt_tbl) (hw1 : (own, index, y, host) ∈ nt_nestM) (hw2 : Cond.static y ∈ nt_tbl) (hw4 : Cond.initialized y.cls ∈ nt_tbl) (hd : y.cls ≠ "java/lang/invoke/MethodHandle" ∧ y.cls ≠ "java/lang/invoke/VarHandle" ∧ (parseMethodDescriptor y.desc).map (fun d => d.parameters.length) = some As.length) (hR : dp + 1 ≤ R.frames ∧ 8 + (maxL + 11) + 60 * dp ≤ R.locals) (hcs : cells ≤ R.cells ∧ slots ≤ R.slots) (hrs : (rest.map fun v => v.category).sum ≤ 8) (hst : stk = As.reverse ++ rest) (d : decode cc pc = .ok (.invokestatic index, 3)) (k : nt_G p l e R s m args below meth c w A cells slots Q nL (pc + 3) lv (.int r :: rest) g2) : nt_G p l e R s m args below meth c w A cells slots Q nL pc lv stk g := by
  intro H locs ls hP hD hS hl
  subst hst
  have hFc := nt_sub_A X hD hS
  refine va_calli (va_runSN (As := As) (rest := rest) ⟨X.1, X.2.1, X.2.2.1, X.2.2.2.1, X.2.2.2.2.1⟩ (hM H.size) ⟨va_cnB As.length X.2.2.2.2.1 (nt_ws_good hw0) rfl rfl rfl (X.2.2.2.2.2.2.2.2.2.1.2 _ hw1) (X.2.2.2.2.1 _ hw4) hd hR, X.2.2.2.2.1 _ hw2, trivial⟩ ⟨nt_blind, nt_pre X hP hD hS _⟩ rfl rfl hl.1 rfl (lv_room hrs) d hcs) hS (fun q _ h => hFc q h) hFc (fun r1 u t H1 locs1 ht hvm hw hB hz1 hk1 hS1 => ?_)
  obtain ⟨rfl, rfl⟩ := hw
  refine k H1 locs1 ls ?_ (nt_W_dom hD) hS1 hl
  rw [← ht]
  exact hB
theorem nt_cVl (X : nt_X cc nL own ret w A p s m args meth c) {y : MethodName} {bytes : ByteArray} {maxL dp index : Nat} {rt : Option FieldType} {As stk : List Value} {r : Int64} {g2 : nt_T} (k0 : Nat) {C : String} {T : u_T} {N ci : Nat} {tp : (Nat → Int32) → List Value} (hn : k0 < nt_n w) (hE : nt_E w k0 = fun f => .inr (ci, tp f)) (hc : vwCl[ci]? = some (C, T, N)) (hM : nt_Ml l w y bytes maxL rt dp (.ref (nt_a w k0) :: As) g r g2) (hw0 : Cond.code y bytes maxL rt ∈ nt_tbl) (hw1 : Cond.methodLink own index y ∈ nt_tbl) (hw2 : Cond.instanceMethod y ∈ nt_tbl) (hw3 : Cond.selects C y y ∈ nt_tbl) (hw4 : Cond.initialized C ∈ nt_tbl) (hC : y.cls = C) (hd : y.cls ≠ "java/lang/invoke/MethodHandle" ∧ y.cls ≠ "java/lang/invoke/VarHandle" ∧ (parseMethodDescriptor y.desc).map (fun d => d.parameters.length) = some As.length) (hR : dp + 1 ≤ R.frames ∧ 8 + (maxL + 11) + 60 * dp ≤ R.locals) (hcs : cells ≤ R.cells ∧ slots ≤ R.slots) (hrs : (rest.map fun v => v.category).sum ≤ 8) (hst : stk = As.reverse ++ .ref (nt_a w k0) :: rest) (d : decode cc pc = .ok (.invokevirtual index, 3)) (k : nt_G p l e R s m args below meth c w A cells slots Q nL (pc + 3) lv (.long r :: rest) g2) : nt_G p l e R s m args below meth c w A cells slots Q nL pc lv stk g := by
  intro H locs ls hP hD hS hl
  subst hst
  have he : (nt_W w g)[k0]? = some (nt_a w k0, .inr (ci, tp (g k0))) := by rw [nt_W_at hn, hE]
  have hFc := nt_sub_A X hD hS
  have hGd : GoodIn nt_tbl (wsV own index C y (nt_ws y bytes maxL rt)) := by
    intro q hq
    rcases List.mem_append.mp hq with h | h
    · have hm : q ∈ nt_tbl := by
        rcases List.mem_cons.mp h with rfl | h
        · exact hw1
        rcases List.mem_cons.mp h with rfl | h
        · exact hw2
        rcases List.mem_cons.mp h with rfl | h
        · exact hw3
        rcases List.mem_cons.mp h with rfl | h
        · exact hw4
        cases h
      exact ⟨hm, good_of_word (nt_good q hm)⟩
    · exact nt_ws_good hw0 q h
  refine va_calll (va_runV (As := As) (rest := rest) (C := C) ⟨X.1, X.2.1, X.2.2.1, X.2.2.2.1, X.2.2.2.2.1⟩ (hM H.size) (cwV As.length X.2.2.2.2.1 hGd rfl rfl rfl ⟨hC, hd⟩ hR) ⟨nt_blind, va_recv X.2.2.2.2.2.2.2.1 hP hc he, nt_pre X hP hD hS _⟩ rfl rfl hl.1 rfl (lv_room hrs) d hcs) hS (fun q _ h => hFc q h) hFc (fun r1 u t H1 locs1 ht hvm hw hB hz1 hk1 hS1 => ?_)
  obtain ⟨rfl, rfl⟩ := hw
  refine k H1 locs1 ls ?_ (nt_W_dom hD) hS1 hl
  rw [← ht]
  exact hB
theorem nt_cVNl (X : nt_X cc nL own ret w A p s m args meth c) {y : MethodName} {bytes : ByteArray} {maxL dp index : Nat} {rt : Option FieldType} {As stk : List Value} {r : Int64} {g2 : nt_T} {host : String} (k0 : Nat) {C : String} {T : u_T} {N ci : Nat} {tp : (Nat → Int32) → List Value} (hn : k0 < nt_n w) (hE : nt_E w k0 = fun f => .inr (ci, tp f)) (hc : vwCl[ci]? = some (C, T, N)) (hM : nt_Ml l w y bytes maxL rt dp (.ref (nt_a w k0) :: As) g r g2) (hw0 : Cond.code y bytes maxL rt ∈ nt_tbl) (hw1 : (own, index, y, host) ∈ nt_nestM) (hw2 : Cond.instanceMethod y ∈ nt_tbl) (hw3 : Cond.selects C y y ∈ nt_tbl) (hw4 : Cond.initialized y.cls ∈ nt_tbl) (hd : y.cls ≠ "java/lang/invoke/MethodHandle" ∧ y.cls ≠ "java/lang/invoke/VarHandle" ∧ (parseMethodDescriptor y.desc).map (fun d => d.parameters.length) = some As.length) (hR : dp + 1 ≤ R.frames ∧ 8 + (maxL + 11) + 60 * dp ≤ R.locals) (hcs : cells ≤ R.cells ∧ slots ≤ R.slots) (hrs : (rest.map fun v => v.category).sum ≤ 8) (hst : stk = As.reverse ++ .ref (nt_a w k0) :: rest) (d : decode cc pc = .ok (.invokevirtual index, 3)) (k : nt_G p l e R s m args below meth c w A cells slots Q nL (pc + 3) lv (.long r :: rest) g2) : nt_G p l e R s m args below meth c w A cells slots Q nL pc lv stk g := by
  intro H locs ls hP hD hS hl
  subst hst
  have he : (nt_W w g)[k0]? = some (nt_a w k0, .inr (ci, tp (g k0))) := by rw [nt_W_at hn, hE]
  have hFc := nt_sub_A X hD hS
  refine va_calll (va_runVN (As := As) (rest := rest) (C := C) ⟨X.1, X.2.1, X.2.2.1, X.2.2.2.1, X.2.2.2.2.1⟩ (hM H.size) ⟨va_cnB As.length X.2.2.2.2.1 (nt_ws_good hw0) rfl rfl rfl (X.2.2.2.2.2.2.2.2.2.1.2 _ hw1) (X.2.2.2.2.1 _ hw4) hd hR, X.2.2.2.2.1 _ hw2, X.2.2.2.2.1 _ hw3⟩ ⟨nt_blind, va_recv X.2.2.2.2.2.2.2.1 hP hc he, nt_pre X hP hD hS _⟩ rfl rfl hl.1 rfl (lv_room hrs) d hcs) hS (fun q _ h => hFc q h) hFc (fun r1 u t H1 locs1 ht hvm hw hB hz1 hk1 hS1 => ?_)
  obtain ⟨rfl, rfl⟩ := hw
  refine k H1 locs1 ls ?_ (nt_W_dom hD) hS1 hl
  rw [← ht]
  exact hB
theorem nt_cSl (X : nt_X cc nL own ret w A p s m args meth c) {y : MethodName} {bytes : ByteArray} {maxL dp index : Nat} {rt : Option FieldType} {As stk : List Value} {r : Int64} {g2 : nt_T} (hM : nt_Ml l w y bytes maxL rt dp As g r g2) (hw0 : Cond.code y bytes maxL rt ∈ nt_tbl) (hw1 : Cond.methodLink own index y ∈ nt_tbl) (hw2 : Cond.static y ∈ nt_tbl) (hw4 : Cond.initialized y.cls ∈ nt_tbl) (hd : y.cls ≠ "java/lang/invoke/MethodHandle" ∧ y.cls ≠ "java/lang/invoke/VarHandle" ∧ (parseMethodDescriptor y.desc).map (fun d => d.parameters.length) = some As.length) (hR : dp + 1 ≤ R.frames ∧ 8 + (maxL + 11) + 60 * dp ≤ R.locals) (hcs : cells ≤ R.cells ∧ slots ≤ R.slots) (hrs : (rest.map fun v => v.category).sum ≤ 8) (hst : stk = As.reverse ++ rest) (d : decode cc pc = .ok (.invokestatic index, 3)) (k : nt_G p l e R s m args below meth c w A cells slots Q nL (pc + 3) lv (.long r :: rest) g2) : nt_G p l e R s m args below meth c w A cells slots Q nL pc lv stk g := by
  intro H locs ls hP hD hS hl
  subst hst
  have hFc := nt_sub_A X hD hS
  refine va_calll (va_runS (As := As) (rest := rest) ⟨X.1, X.2.1, X.2.2.1, X.2.2.2.1, X.2.2.2.2.1⟩ (hM H.size) ⟨callB_of As.length X.2.2.2.2.1 (nt_ws_good hw0) rfl rfl rfl (X.2.2.2.2.1 _ hw4) (X.2.2.2.2.1 _ hw1) hd hR, X.2.2.2.2.1 _ hw2⟩ ⟨nt_blind, nt_pre X hP hD hS _⟩ rfl rfl hl.1 rfl (lv_room hrs) d hcs) hS (fun q _ h => hFc q h) hFc (fun r1 u t H1 locs1 ht hvm hw hB hz1 hk1 hS1 => ?_)
  obtain ⟨rfl, rfl⟩ := hw
  refine k H1 locs1 ls ?_ (nt_W_dom hD) hS1 hl
  rw [← ht]
  exact hB
theorem nt_cSNl (X : nt_X cc nL own ret w A p s m args meth c) {y : MethodName} {bytes : ByteArray} {maxL dp index : Nat} {rt : Option FieldType} {As stk : List Value} {r : Int64} {g2 : nt_T} {host : String} (hM : nt_Ml l w y bytes maxL rt dp As g r g2) (hw0 : Cond.code y bytes maxL rt ∈ nt_tbl) (hw1 : (own, index, y, host) ∈ nt_nestM) (hw2 : Cond.static y ∈ nt_tbl) (hw4 : Cond.initialized y.cls ∈ nt_tbl) (hd : y.cls ≠ "java/lang/invoke/MethodHandle" ∧ y.cls ≠ "java/lang/invoke/VarHandle" ∧ (parseMethodDescriptor y.desc).map (fun d => d.parameters.length) = some As.length) (hR : dp + 1 ≤ R.frames ∧ 8 + (maxL + 11) + 60 * dp ≤ R.locals) (hcs : cells ≤ R.cells ∧ slots ≤ R.slots) (hrs : (rest.map fun v => v.category).sum ≤ 8) (hst : stk = As.reverse ++ rest) (d : decode cc pc = .ok (.invokestatic index, 3)) (k : nt_G p l e R s m args below meth c w A cells slots Q nL (pc + 3) lv (.long r :: rest) g2) : nt_G p l e R s m args below meth c w A cells slots Q nL pc lv stk g := by
  intro H locs ls hP hD hS hl
  subst hst
  have hFc := nt_sub_A X hD hS
  refine va_calll (va_runSN (As := As) (rest := rest) ⟨X.1, X.2.1, X.2.2.1, X.2.2.2.1, X.2.2.2.2.1⟩ (hM H.size) ⟨va_cnB As.length X.2.2.2.2.1 (nt_ws_good hw0) rfl rfl rfl (X.2.2.2.2.2.2.2.2.2.1.2 _ hw1) (X.2.2.2.2.1 _ hw4) hd hR, X.2.2.2.2.1 _ hw2, trivial⟩ ⟨nt_blind, nt_pre X hP hD hS _⟩ rfl rfl hl.1 rfl (lv_room hrs) d hcs) hS (fun q _ h => hFc q h) hFc (fun r1 u t H1 locs1 ht hvm hw hB hz1 hk1 hS1 => ?_)
  obtain ⟨rfl, rfl⟩ := hw
  refine k H1 locs1 ls ?_ (nt_W_dom hD) hS1 hl
  rw [← ht]
  exact hB
theorem nt_cVv (X : nt_X cc nL own ret w A p s m args meth c) {y : MethodName} {bytes : ByteArray} {maxL dp index : Nat} {rt : Option FieldType} {As stk : List Value} {g2 : nt_T} (k0 : Nat) {C : String} {T : u_T} {N ci : Nat} {tp : (Nat → Int32) → List Value} (hn : k0 < nt_n w) (hE : nt_E w k0 = fun f => .inr (ci, tp f)) (hc : vwCl[ci]? = some (C, T, N)) (hM : nt_Mv l w y bytes maxL rt dp (.ref (nt_a w k0) :: As) g g2) (hw0 : Cond.code y bytes maxL rt ∈ nt_tbl) (hw1 : Cond.methodLink own index y ∈ nt_tbl) (hw2 : Cond.instanceMethod y ∈ nt_tbl) (hw3 : Cond.selects C y y ∈ nt_tbl) (hw4 : Cond.initialized C ∈ nt_tbl) (hC : y.cls = C) (hd : y.cls ≠ "java/lang/invoke/MethodHandle" ∧ y.cls ≠ "java/lang/invoke/VarHandle" ∧ (parseMethodDescriptor y.desc).map (fun d => d.parameters.length) = some As.length) (hR : dp + 1 ≤ R.frames ∧ 8 + (maxL + 11) + 60 * dp ≤ R.locals) (hcs : cells ≤ R.cells ∧ slots ≤ R.slots) (hrs : (rest.map fun v => v.category).sum ≤ 8) (hst : stk = As.reverse ++ .ref (nt_a w k0) :: rest) (d : decode cc pc = .ok (.invokevirtual index, 3)) (k : nt_G p l e R s m args below meth c w A cells slots Q nL (pc + 3) lv (rest) g2) : nt_G p l e R s m args below meth c w A cells slots Q nL pc lv stk g := by
  intro H locs ls hP hD hS hl
  subst hst
  have he : (nt_W w g)[k0]? = some (nt_a w k0, .inr (ci, tp (g k0))) := by rw [nt_W_at hn, hE]
  have hFc := nt_sub_A X hD hS
  have hGd : GoodIn nt_tbl (wsV own index C y (nt_ws y bytes maxL rt)) := by
    intro q hq
    rcases List.mem_append.mp hq with h | h
    · have hm : q ∈ nt_tbl := by
        rcases List.mem_cons.mp h with rfl | h
        · exact hw1
        rcases List.mem_cons.mp h with rfl | h
        · exact hw2
        rcases List.mem_cons.mp h with rfl | h
        · exact hw3
        rcases List.mem_cons.mp h with rfl | h
        · exact hw4
        cases h
      exact ⟨hm, good_of_word (nt_good q hm)⟩
    · exact nt_ws_good hw0 q h
  refine va_callv (va_runV (As := As) (rest := rest) (C := C) ⟨X.1, X.2.1, X.2.2.1, X.2.2.2.1, X.2.2.2.2.1⟩ (hM H.size) (cwV As.length X.2.2.2.2.1 hGd rfl rfl rfl ⟨hC, hd⟩ hR) ⟨nt_blind, va_recv X.2.2.2.2.2.2.2.1 hP hc he, nt_pre X hP hD hS _⟩ rfl rfl hl.1 rfl (lv_room hrs) d hcs) hS (fun q _ h => hFc q h) hFc (fun u t H1 locs1 ht hvm hw hB hz1 hk1 hS1 => ?_)
  subst hw
  refine k H1 locs1 ls ?_ (nt_W_dom hD) hS1 hl
  rw [← ht]
  exact hB
theorem nt_cVNv (X : nt_X cc nL own ret w A p s m args meth c) {y : MethodName} {bytes : ByteArray} {maxL dp index : Nat} {rt : Option FieldType} {As stk : List Value} {g2 : nt_T} {host : String} (k0 : Nat) {C : String} {T : u_T} {N ci : Nat} {tp : (Nat → Int32) → List Value} (hn : k0 < nt_n w) (hE : nt_E w k0 = fun f => .inr (ci, tp f)) (hc : vwCl[ci]? = some (C, T, N)) (hM : nt_Mv l w y bytes maxL rt dp (.ref (nt_a w k0) :: As) g g2) (hw0 : Cond.code y bytes maxL rt ∈ nt_tbl) (hw1 : (own, index, y, host) ∈ nt_nestM) (hw2 : Cond.instanceMethod y ∈ nt_tbl) (hw3 : Cond.selects C y y ∈ nt_tbl) (hw4 : Cond.initialized y.cls ∈ nt_tbl) (hd : y.cls ≠ "java/lang/invoke/MethodHandle" ∧ y.cls ≠ "java/lang/invoke/VarHandle" ∧ (parseMethodDescriptor y.desc).map (fun d => d.parameters.length) = some As.length) (hR : dp + 1 ≤ R.frames ∧ 8 + (maxL + 11) + 60 * dp ≤ R.locals) (hcs : cells ≤ R.cells ∧ slots ≤ R.slots) (hrs : (rest.map fun v => v.category).sum ≤ 8) (hst : stk = As.reverse ++ .ref (nt_a w k0) :: rest) (d : decode cc pc = .ok (.invokevirtual index, 3)) (k : nt_G p l e R s m args below meth c w A cells slots Q nL (pc + 3) lv (rest) g2) : nt_G p l e R s m args below meth c w A cells slots Q nL pc lv stk g := by
  intro H locs ls hP hD hS hl
  subst hst
  have he : (nt_W w g)[k0]? = some (nt_a w k0, .inr (ci, tp (g k0))) := by rw [nt_W_at hn, hE]
  have hFc := nt_sub_A X hD hS
  refine va_callv (va_runVN (As := As) (rest := rest) (C := C) ⟨X.1, X.2.1, X.2.2.1, X.2.2.2.1, X.2.2.2.2.1⟩ (hM H.size) ⟨va_cnB As.length X.2.2.2.2.1 (nt_ws_good hw0) rfl rfl rfl (X.2.2.2.2.2.2.2.2.2.1.2 _ hw1) (X.2.2.2.2.1 _ hw4) hd hR, X.2.2.2.2.1 _ hw2, X.2.2.2.2.1 _ hw3⟩ ⟨nt_blind, va_recv X.2.2.2.2.2.2.2.1 hP hc he, nt_pre X hP hD hS _⟩ rfl rfl hl.1 rfl (lv_room hrs) d hcs) hS (fun q _ h => hFc q h) hFc (fun u t H1 locs1 ht hvm hw hB hz1 hk1 hS1 => ?_)
  subst hw
  refine k H1 locs1 ls ?_ (nt_W_dom hD) hS1 hl
  rw [← ht]
  exact hB
theorem nt_cSv (X : nt_X cc nL own ret w A p s m args meth c) {y : MethodName} {bytes : ByteArray} {maxL dp index : Nat} {rt : Option FieldType} {As stk : List Value} {g2 : nt_T} (hM : nt_Mv l w y bytes maxL rt dp As g g2) (hw0 : Cond.code y bytes maxL rt ∈ nt_tbl) (hw1 : Cond.methodLink own index y ∈ nt_tbl) (hw2 : Cond.static y ∈ nt_tbl) (hw4 : Cond.initialized y.cls ∈ nt_tbl) (hd : y.cls ≠ "java/lang/invoke/MethodHandle" ∧ y.cls ≠ "java/lang/invoke/VarHandle" ∧ (parseMethodDescriptor y.desc).map (fun d => d.parameters.length) = some As.length) (hR : dp + 1 ≤ R.frames ∧ 8 + (maxL + 11) + 60 * dp ≤ R.locals) (hcs : cells ≤ R.cells ∧ slots ≤ R.slots) (hrs : (rest.map fun v => v.category).sum ≤ 8) (hst : stk = As.reverse ++ rest) (d : decode cc pc = .ok (.invokestatic index, 3)) (k : nt_G p l e R s m args below meth c w A cells slots Q nL (pc + 3) lv (rest) g2) : nt_G p l e R s m args below meth c w A cells slots Q nL pc lv stk g := by
  intro H locs ls hP hD hS hl
  subst hst
  have hFc := nt_sub_A X hD hS
  refine va_callv (va_runS (As := As) (rest := rest) ⟨X.1, X.2.1, X.2.2.1, X.2.2.2.1, X.2.2.2.2.1⟩ (hM H.size) ⟨callB_of As.length X.2.2.2.2.1 (nt_ws_good hw0) rfl rfl rfl (X.2.2.2.2.1 _ hw4) (X.2.2.2.2.1 _ hw1) hd hR, X.2.2.2.2.1 _ hw2⟩ ⟨nt_blind, nt_pre X hP hD hS _⟩ rfl rfl hl.1 rfl (lv_room hrs) d hcs) hS (fun q _ h => hFc q h) hFc (fun u t H1 locs1 ht hvm hw hB hz1 hk1 hS1 => ?_)
  subst hw
  refine k H1 locs1 ls ?_ (nt_W_dom hD) hS1 hl
  rw [← ht]
  exact hB
theorem nt_cSNv (X : nt_X cc nL own ret w A p s m args meth c) {y : MethodName} {bytes : ByteArray} {maxL dp index : Nat} {rt : Option FieldType} {As stk : List Value} {g2 : nt_T} {host : String} (hM : nt_Mv l w y bytes maxL rt dp As g g2) (hw0 : Cond.code y bytes maxL rt ∈ nt_tbl) (hw1 : (own, index, y, host) ∈ nt_nestM) (hw2 : Cond.static y ∈ nt_tbl) (hw4 : Cond.initialized y.cls ∈ nt_tbl) (hd : y.cls ≠ "java/lang/invoke/MethodHandle" ∧ y.cls ≠ "java/lang/invoke/VarHandle" ∧ (parseMethodDescriptor y.desc).map (fun d => d.parameters.length) = some As.length) (hR : dp + 1 ≤ R.frames ∧ 8 + (maxL + 11) + 60 * dp ≤ R.locals) (hcs : cells ≤ R.cells ∧ slots ≤ R.slots) (hrs : (rest.map fun v => v.category).sum ≤ 8) (hst : stk = As.reverse ++ rest) (d : decode cc pc = .ok (.invokestatic index, 3)) (k : nt_G p l e R s m args below meth c w A cells slots Q nL (pc + 3) lv (rest) g2) : nt_G p l e R s m args below meth c w A cells slots Q nL pc lv stk g := by
  intro H locs ls hP hD hS hl
  subst hst
  have hFc := nt_sub_A X hD hS
  refine va_callv (va_runSN (As := As) (rest := rest) ⟨X.1, X.2.1, X.2.2.1, X.2.2.2.1, X.2.2.2.2.1⟩ (hM H.size) ⟨va_cnB As.length X.2.2.2.2.1 (nt_ws_good hw0) rfl rfl rfl (X.2.2.2.2.2.2.2.2.2.1.2 _ hw1) (X.2.2.2.2.1 _ hw4) hd hR, X.2.2.2.2.1 _ hw2, trivial⟩ ⟨nt_blind, nt_pre X hP hD hS _⟩ rfl rfl hl.1 rfl (lv_room hrs) d hcs) hS (fun q _ h => hFc q h) hFc (fun u t H1 locs1 ht hvm hw hB hz1 hk1 hS1 => ?_)
  subst hw
  refine k H1 locs1 ls ?_ (nt_W_dom hD) hS1 hl
  rw [← ht]
  exact hB
theorem nt_iret (X : nt_X cc nL own (some .int) w A p s m args meth c) {r : Int32} {g2 : nt_T} (d : decode cc pc = .ok (.ireturn, 1)) {v : Int32} (h : (v, g) = (r, g2)) : nt_G p l e R s m args below meth c w A 0 0 (MQ below (va_Qi (fun (r' : Int32) (u : nt_T) => r' = r ∧ u = g2) (nt_B w) A) args s 0 0 A) nL pc lv [.int v] g := by
  intro H locs ls hP hD hS hl
  have hlocks := X.2.2.2.2.2.1
  exact W.iret X.1 X.2.1 X.2.2.2.2.2.2.1 (fun t ht hW => ⟨⟨v, g, rfl, ⟨(Prod.mk.inj h).1, (Prod.mk.inj h).2⟩, by rw [nt_B, ht]; exact hP⟩, hS.F ht⟩) hS.2.2 d
theorem nt_zret {ty : FieldType} (X : nt_X cc nL own (some ty) w A p s m args meth c) {r : Int32} {g2 : nt_T} {v : Int32} (hnr : narrow ty (.int v) = .int v) (d : decode cc pc = .ok (.ireturn, 1)) (h : (v, g) = (r, g2)) : nt_G p l e R s m args below meth c w A 0 0 (MQ below (va_Qi (fun (r' : Int32) (u : nt_T) => r' = r ∧ u = g2) (nt_B w) A) args s 0 0 A) nL pc lv [.int v] g := by
  intro H locs ls hP hD hS hl
  have hlocks := X.2.2.2.2.2.1
  exact W.zret X.1 X.2.1 X.2.2.2.2.2.2.1 hnr (fun t ht hW => ⟨⟨v, g, rfl, ⟨(Prod.mk.inj h).1, (Prod.mk.inj h).2⟩, by rw [nt_B, ht]; exact hP⟩, hS.F ht⟩) hS.2.2 d
theorem nt_Mi_of {y : MethodName} {dp : Nat} {av : List Value} {r : Int32} {g2 : nt_T} (hy : plainName y.cls = true) (hlen : (lg_sl av).length ≤ nL) (body : ∀ (p : Program) (e : Env) (s : State) (m : MethodId) (args : Array Value) (below : List Frame) (meth : Method) (c : Code) (A : Nat → Prop), nt_X cc nL y.cls ret w A p s m args meth c → nt_G p l e (nt_rm dp) s m args below meth c w A 0 0 (MQ below (va_Qi (fun (r' : Int32) (u : nt_T) => r' = r ∧ u = g2) (nt_B w) A) args s 0 0 A) nL 0 (lv_args 0 av) [] g) : nt_Mi l w y cc nL ret dp av g r g2 := by
  intro sz
  refine Met.ofW (cc := cc) (maxL := nL) (ret := ret) hy rfl ?_
  intro p e s m args below meth c s₁ B hml hv
  obtain ⟨rfl, hsz, hP, hK, hD0, hZ⟩ := hv
  have hts := atoms_spec (ws := nt_ws y cc nL ret) B.pre
  have hown : s.vm.findClass y.cls = some m.cls := findClass_of_methodNamed B.named
  subst hsz
  have hX : nt_X cc nL y.cls ret w (va_A (nt_W w g) s.heap.size) p s m av.toArray meth c := ⟨B.exec, B.bytes, hml, hown, fun q hq => hts q (List.mem_cons_of_mem _ hq), B.notSynchronized, B.returns, hK, fun q h => Or.inr h, hZ⟩
  have hl := lv_entry av (n := nL) hlen
  rw [lg_entry_eq]
  exact body p e s m av.toArray below meth c _ hX s.heap [] _ hP (hD0.self) va_S.rf hl
theorem nt_lret (X : nt_X cc nL own (some .long) w A p s m args meth c) {r : Int64} {g2 : nt_T} (d : decode cc pc = .ok (.lreturn, 1)) {v : Int64} (h : (v, g) = (r, g2)) : nt_G p l e R s m args below meth c w A 0 0 (MQ below (va_Ql (fun (r' : Int64) (u : nt_T) => r' = r ∧ u = g2) (nt_B w) A) args s 0 0 A) nL pc lv [.long v] g := by
  intro H locs ls hP hD hS hl
  have hlocks := X.2.2.2.2.2.1
  exact W.lret X.1 X.2.1 X.2.2.2.2.2.2.1 (fun t ht hW => ⟨⟨v, g, rfl, ⟨(Prod.mk.inj h).1, (Prod.mk.inj h).2⟩, by rw [nt_B, ht]; exact hP⟩, hS.F ht⟩) hS.2.2 d
theorem nt_Ml_of {y : MethodName} {dp : Nat} {av : List Value} {r : Int64} {g2 : nt_T} (hy : plainName y.cls = true) (hlen : (lg_sl av).length ≤ nL) (body : ∀ (p : Program) (e : Env) (s : State) (m : MethodId) (args : Array Value) (below : List Frame) (meth : Method) (c : Code) (A : Nat → Prop), nt_X cc nL y.cls ret w A p s m args meth c → nt_G p l e (nt_rm dp) s m args below meth c w A 0 0 (MQ below (va_Ql (fun (r' : Int64) (u : nt_T) => r' = r ∧ u = g2) (nt_B w) A) args s 0 0 A) nL 0 (lv_args 0 av) [] g) : nt_Ml l w y cc nL ret dp av g r g2 := by
  intro sz
  refine Met.ofW (cc := cc) (maxL := nL) (ret := ret) hy rfl ?_
  intro p e s m args below meth c s₁ B hml hv
  obtain ⟨rfl, hsz, hP, hK, hD0, hZ⟩ := hv
  have hts := atoms_spec (ws := nt_ws y cc nL ret) B.pre
  have hown : s.vm.findClass y.cls = some m.cls := findClass_of_methodNamed B.named
  subst hsz
  have hX : nt_X cc nL y.cls ret w (va_A (nt_W w g) s.heap.size) p s m av.toArray meth c := ⟨B.exec, B.bytes, hml, hown, fun q hq => hts q (List.mem_cons_of_mem _ hq), B.notSynchronized, B.returns, hK, fun q h => Or.inr h, hZ⟩
  have hl := lv_entry av (n := nL) hlen
  rw [lg_entry_eq]
  exact body p e s m av.toArray below meth c _ hX s.heap [] _ hP (hD0.self) va_S.rf hl
theorem nt_vret (X : nt_X cc nL own none w A p s m args meth c) {g2 : nt_T} (d : decode cc pc = .ok (.return_, 1)) (h : g = g2) : nt_G p l e R s m args below meth c w A 0 0 (MQ below (va_Qv (fun (u : nt_T) => u = g2) (nt_B w) A) args s 0 0 A) nL pc lv [] g := by
  intro H locs ls hP hD hS hl
  have hlocks := X.2.2.2.2.2.1
  exact W.vret X.1 X.2.1 X.2.2.2.2.2.2.1 (fun t ht hW => ⟨⟨g, rfl, h, by rw [nt_B, ht]; exact hP⟩, hS.F ht⟩) hS.2.2 d
theorem nt_Mv_of {y : MethodName} {dp : Nat} {av : List Value} {g2 : nt_T} (hy : plainName y.cls = true) (hlen : (lg_sl av).length ≤ nL) (body : ∀ (p : Program) (e : Env) (s : State) (m : MethodId) (args : Array Value) (below : List Frame) (meth : Method) (c : Code) (A : Nat → Prop), nt_X cc nL y.cls ret w A p s m args meth c → nt_G p l e (nt_rm dp) s m args below meth c w A 0 0 (MQ below (va_Qv (fun (u : nt_T) => u = g2) (nt_B w) A) args s 0 0 A) nL 0 (lv_args 0 av) [] g) : nt_Mv l w y cc nL ret dp av g g2 := by
  intro sz
  refine Met.ofW (cc := cc) (maxL := nL) (ret := ret) hy rfl ?_
  intro p e s m args below meth c s₁ B hml hv
  obtain ⟨rfl, hsz, hP, hK, hD0, hZ⟩ := hv
  have hts := atoms_spec (ws := nt_ws y cc nL ret) B.pre
  have hown : s.vm.findClass y.cls = some m.cls := findClass_of_methodNamed B.named
  subst hsz
  have hX : nt_X cc nL y.cls ret w (va_A (nt_W w g) s.heap.size) p s m av.toArray meth c := ⟨B.exec, B.bytes, hml, hown, fun q hq => hts q (List.mem_cons_of_mem _ hq), B.notSynchronized, B.returns, hK, fun q h => Or.inr h, hZ⟩
  have hl := lv_entry av (n := nL) hlen
  rw [lg_entry_eq]
  exact body p e s m av.toArray below meth c _ hX s.heap [] _ hP (hD0.self) va_S.rf hl
end NT
end
