section
-- ===== PART A: goes FIRST, ahead of the names: the tables' words, and 'selects' of the private methods out of them =====
/-- a private method of a class that the tables say can be made, by its rows of tables_1 -/
def lw_okq (q : MethodName × Nat) : Prop := (q.1.cls ≠ "java/lang/invoke/MethodHandle" ∧ q.1.cls ≠ "java/lang/invoke/VarHandle") ∧ Cond.instantiable q.1.cls q.2 ∈ tables_1 ∧ Cond.privateMethod q.1 ∈ tables_1 ∧ Cond.instanceMethod q.1 ∈ tables_1
theorem lw_p0 : lw_okq (⟨"NotTwice$Reader", "putFirstText", "()V"⟩, 9) := ⟨⟨by decide +kernel, by decide +kernel⟩, List.mem_of_getElem? (i := 81) (by decide +kernel), List.mem_of_getElem? (i := 116) (by decide +kernel), List.mem_of_getElem? (i := 117) (by decide +kernel)⟩
theorem lw_p1 : lw_okq (⟨"NotTwice$Reader", "put", "(I)I"⟩, 9) := ⟨⟨by decide +kernel, by decide +kernel⟩, List.mem_of_getElem? (i := 81) (by decide +kernel), List.mem_of_getElem? (i := 169) (by decide +kernel), List.mem_of_getElem? (i := 170) (by decide +kernel)⟩
theorem lw_p2 : lw_okq (⟨"NotTwice$Reader", "reads", "()Z"⟩, 9) := ⟨⟨by decide +kernel, by decide +kernel⟩, List.mem_of_getElem? (i := 81) (by decide +kernel), List.mem_of_getElem? (i := 173) (by decide +kernel), List.mem_of_getElem? (i := 174) (by decide +kernel)⟩
theorem lw_p3 : lw_okq (⟨"NotTwice$Reader", "step", "()V"⟩, 9) := ⟨⟨by decide +kernel, by decide +kernel⟩, List.mem_of_getElem? (i := 81) (by decide +kernel), List.mem_of_getElem? (i := 177) (by decide +kernel), List.mem_of_getElem? (i := 178) (by decide +kernel)⟩
theorem lw_p4 : lw_okq (⟨"NotTwice$Reader", "word", "()I"⟩, 9) := ⟨⟨by decide +kernel, by decide +kernel⟩, List.mem_of_getElem? (i := 81) (by decide +kernel), List.mem_of_getElem? (i := 184) (by decide +kernel), List.mem_of_getElem? (i := 185) (by decide +kernel)⟩
theorem lw_p5 : lw_okq (⟨"NotTwice$Reader", "numeral", "()I"⟩, 9) := ⟨⟨by decide +kernel, by decide +kernel⟩, List.mem_of_getElem? (i := 81) (by decide +kernel), List.mem_of_getElem? (i := 192) (by decide +kernel), List.mem_of_getElem? (i := 193) (by decide +kernel)⟩
theorem lw_p6 : lw_okq (⟨"NotTwice$Reader", "takes", "(I)Z"⟩, 9) := ⟨⟨by decide +kernel, by decide +kernel⟩, List.mem_of_getElem? (i := 81) (by decide +kernel), List.mem_of_getElem? (i := 256) (by decide +kernel), List.mem_of_getElem? (i := 257) (by decide +kernel)⟩
theorem lw_p7 : lw_okq (⟨"NotTwice$Reader", "readsLevel", "(I)Z"⟩, 9) := ⟨⟨by decide +kernel, by decide +kernel⟩, List.mem_of_getElem? (i := 81) (by decide +kernel), List.mem_of_getElem? (i := 260) (by decide +kernel), List.mem_of_getElem? (i := 261) (by decide +kernel)⟩
theorem lw_p8 : lw_okq (⟨"NotTwice$Reader", "readsOpened", "()Z"⟩, 9) := ⟨⟨by decide +kernel, by decide +kernel⟩, List.mem_of_getElem? (i := 81) (by decide +kernel), List.mem_of_getElem? (i := 264) (by decide +kernel), List.mem_of_getElem? (i := 265) (by decide +kernel)⟩
theorem lw_p9 : lw_okq (⟨"NotTwice$Reader", "write", "(I)V"⟩, 9) := ⟨⟨by decide +kernel, by decide +kernel⟩, List.mem_of_getElem? (i := 81) (by decide +kernel), List.mem_of_getElem? (i := 268) (by decide +kernel), List.mem_of_getElem? (i := 269) (by decide +kernel)⟩
theorem lw_p10 : lw_okq (⟨"NotTwice$Reader", "readsPlain", "()Z"⟩, 9) := ⟨⟨by decide +kernel, by decide +kernel⟩, List.mem_of_getElem? (i := 81) (by decide +kernel), List.mem_of_getElem? (i := 272) (by decide +kernel), List.mem_of_getElem? (i := 273) (by decide +kernel)⟩
theorem lw_p11 : lw_okq (⟨"NotTwice$Reader", "made", "()LNotTwice$Rule;"⟩, 9) := ⟨⟨by decide +kernel, by decide +kernel⟩, List.mem_of_getElem? (i := 81) (by decide +kernel), List.mem_of_getElem? (i := 279) (by decide +kernel), List.mem_of_getElem? (i := 280) (by decide +kernel)⟩
theorem lw_p12 : lw_okq (⟨"NotTwice$Texts", "add", "(LNotTwice$Rule;)I"⟩, 4) := ⟨⟨by decide +kernel, by decide +kernel⟩, List.mem_of_getElem? (i := 57) (by decide +kernel), List.mem_of_getElem? (i := 303) (by decide +kernel), List.mem_of_getElem? (i := 304) (by decide +kernel)⟩
theorem lw_p13 : lw_okq (⟨"NotTwice$Texts", "isFull", "()Z"⟩, 4) := ⟨⟨by decide +kernel, by decide +kernel⟩, List.mem_of_getElem? (i := 57) (by decide +kernel), List.mem_of_getElem? (i := 307) (by decide +kernel), List.mem_of_getElem? (i := 308) (by decide +kernel)⟩
theorem lw_p14 : lw_okq (⟨"NotTwice$Reader", "empty", "()V"⟩, 9) := ⟨⟨by decide +kernel, by decide +kernel⟩, List.mem_of_getElem? (i := 81) (by decide +kernel), List.mem_of_getElem? (i := 311) (by decide +kernel), List.mem_of_getElem? (i := 312) (by decide +kernel)⟩
theorem lw_p15 : lw_okq (⟨"NotTwice$Shelf", "add", "(III)I"⟩, 5) := ⟨⟨by decide +kernel, by decide +kernel⟩, List.mem_of_getElem? (i := 27) (by decide +kernel), List.mem_of_getElem? (i := 463) (by decide +kernel), List.mem_of_getElem? (i := 464) (by decide +kernel)⟩
def lw_privs_1 : List (MethodName × Nat) := [(⟨"NotTwice$Reader", "putFirstText", "()V"⟩, 9), (⟨"NotTwice$Reader", "put", "(I)I"⟩, 9), (⟨"NotTwice$Reader", "reads", "()Z"⟩, 9), (⟨"NotTwice$Reader", "step", "()V"⟩, 9), (⟨"NotTwice$Reader", "word", "()I"⟩, 9), (⟨"NotTwice$Reader", "numeral", "()I"⟩, 9), (⟨"NotTwice$Reader", "takes", "(I)Z"⟩, 9), (⟨"NotTwice$Reader", "readsLevel", "(I)Z"⟩, 9), (⟨"NotTwice$Reader", "readsOpened", "()Z"⟩, 9), (⟨"NotTwice$Reader", "write", "(I)V"⟩, 9), (⟨"NotTwice$Reader", "readsPlain", "()Z"⟩, 9), (⟨"NotTwice$Reader", "made", "()LNotTwice$Rule;"⟩, 9), (⟨"NotTwice$Texts", "add", "(LNotTwice$Rule;)I"⟩, 4), (⟨"NotTwice$Texts", "isFull", "()Z"⟩, 4), (⟨"NotTwice$Reader", "empty", "()V"⟩, 9), (⟨"NotTwice$Shelf", "add", "(III)I"⟩, 5)]
theorem lw_r1 : ∀ q ∈ lw_privs_1, lw_okq q := List.forall_mem_cons.mpr ⟨lw_p0, List.forall_mem_cons.mpr ⟨lw_p1, List.forall_mem_cons.mpr ⟨lw_p2, List.forall_mem_cons.mpr ⟨lw_p3, List.forall_mem_cons.mpr ⟨lw_p4, List.forall_mem_cons.mpr ⟨lw_p5, List.forall_mem_cons.mpr ⟨lw_p6, List.forall_mem_cons.mpr ⟨lw_p7, List.forall_mem_cons.mpr ⟨lw_p8, List.forall_mem_cons.mpr ⟨lw_p9, List.forall_mem_cons.mpr ⟨lw_p10, List.forall_mem_cons.mpr ⟨lw_p11, List.forall_mem_cons.mpr ⟨lw_p12, List.forall_mem_cons.mpr ⟨lw_p13, List.forall_mem_cons.mpr ⟨lw_p14, List.forall_mem_cons.mpr ⟨lw_p15, fun _ h => absurd h List.not_mem_nil⟩⟩⟩⟩⟩⟩⟩⟩⟩⟩⟩⟩⟩⟩⟩⟩
theorem lw_p16 : lw_okq (⟨"NotTwice$Shelf", "has", "(I)Z"⟩, 5) := ⟨⟨by decide +kernel, by decide +kernel⟩, List.mem_of_getElem? (i := 27) (by decide +kernel), List.mem_of_getElem? (i := 471) (by decide +kernel), List.mem_of_getElem? (i := 472) (by decide +kernel)⟩
theorem lw_p17 : lw_okq (⟨"NotTwice$Shelf", "join", "(II)V"⟩, 5) := ⟨⟨by decide +kernel, by decide +kernel⟩, List.mem_of_getElem? (i := 27) (by decide +kernel), List.mem_of_getElem? (i := 476) (by decide +kernel), List.mem_of_getElem? (i := 477) (by decide +kernel)⟩
theorem lw_p18 : lw_okq (⟨"NotTwice$Shelf", "part", "(I)V"⟩, 5) := ⟨⟨by decide +kernel, by decide +kernel⟩, List.mem_of_getElem? (i := 27) (by decide +kernel), List.mem_of_getElem? (i := 480) (by decide +kernel), List.mem_of_getElem? (i := 481) (by decide +kernel)⟩
theorem lw_p19 : lw_okq (⟨"NotTwice$People", "come", "(II)I"⟩, 14) := ⟨⟨by decide +kernel, by decide +kernel⟩, List.mem_of_getElem? (i := 315) (by decide +kernel), List.mem_of_getElem? (i := 489) (by decide +kernel), List.mem_of_getElem? (i := 490) (by decide +kernel)⟩
theorem lw_p20 : lw_okq (⟨"NotTwice$People", "sit", "(III)V"⟩, 14) := ⟨⟨by decide +kernel, by decide +kernel⟩, List.mem_of_getElem? (i := 315) (by decide +kernel), List.mem_of_getElem? (i := 494) (by decide +kernel), List.mem_of_getElem? (i := 495) (by decide +kernel)⟩
theorem lw_p21 : lw_okq (⟨"NotTwice$People", "has", "(I)Z"⟩, 14) := ⟨⟨by decide +kernel, by decide +kernel⟩, List.mem_of_getElem? (i := 315) (by decide +kernel), List.mem_of_getElem? (i := 502) (by decide +kernel), List.mem_of_getElem? (i := 503) (by decide +kernel)⟩
theorem lw_p22 : lw_okq (⟨"NotTwice$People", "hear", "(II)V"⟩, 14) := ⟨⟨by decide +kernel, by decide +kernel⟩, List.mem_of_getElem? (i := 315) (by decide +kernel), List.mem_of_getElem? (i := 516) (by decide +kernel), List.mem_of_getElem? (i := 517) (by decide +kernel)⟩
theorem lw_p23 : lw_okq (⟨"NotTwice$People", "forget", "(II)V"⟩, 14) := ⟨⟨by decide +kernel, by decide +kernel⟩, List.mem_of_getElem? (i := 315) (by decide +kernel), List.mem_of_getElem? (i := 520) (by decide +kernel), List.mem_of_getElem? (i := 521) (by decide +kernel)⟩
theorem lw_p24 : lw_okq (⟨"NotTwice$Shelf", "stays", "(I)I"⟩, 5) := ⟨⟨by decide +kernel, by decide +kernel⟩, List.mem_of_getElem? (i := 27) (by decide +kernel), List.mem_of_getElem? (i := 528) (by decide +kernel), List.mem_of_getElem? (i := 529) (by decide +kernel)⟩
theorem lw_p25 : lw_okq (⟨"NotTwice$Shelf", "counts", "(II)I"⟩, 5) := ⟨⟨by decide +kernel, by decide +kernel⟩, List.mem_of_getElem? (i := 27) (by decide +kernel), List.mem_of_getElem? (i := 533) (by decide +kernel), List.mem_of_getElem? (i := 534) (by decide +kernel)⟩
theorem lw_p26 : lw_okq (⟨"NotTwice$People", "knows", "(I)I"⟩, 14) := ⟨⟨by decide +kernel, by decide +kernel⟩, List.mem_of_getElem? (i := 315) (by decide +kernel), List.mem_of_getElem? (i := 541) (by decide +kernel), List.mem_of_getElem? (i := 542) (by decide +kernel)⟩
theorem lw_p27 : lw_okq (⟨"NotTwice$Shelf", "withTwins", "(I)I"⟩, 5) := ⟨⟨by decide +kernel, by decide +kernel⟩, List.mem_of_getElem? (i := 27) (by decide +kernel), List.mem_of_getElem? (i := 545) (by decide +kernel), List.mem_of_getElem? (i := 546) (by decide +kernel)⟩
theorem lw_p28 : lw_okq (⟨"NotTwice$Reader", "place", "()I"⟩, 9) := ⟨⟨by decide +kernel, by decide +kernel⟩, List.mem_of_getElem? (i := 81) (by decide +kernel), List.mem_of_getElem? (i := 559) (by decide +kernel), List.mem_of_getElem? (i := 560) (by decide +kernel)⟩
theorem lw_p29 : lw_okq (⟨"NotTwice$Texts", "has", "(I)Z"⟩, 4) := ⟨⟨by decide +kernel, by decide +kernel⟩, List.mem_of_getElem? (i := 57) (by decide +kernel), List.mem_of_getElem? (i := 567) (by decide +kernel), List.mem_of_getElem? (i := 568) (by decide +kernel)⟩
theorem lw_p30 : lw_okq (⟨"NotTwice$People", "tellableIn", "(I)I"⟩, 14) := ⟨⟨by decide +kernel, by decide +kernel⟩, List.mem_of_getElem? (i := 315) (by decide +kernel), List.mem_of_getElem? (i := 576) (by decide +kernel), List.mem_of_getElem? (i := 577) (by decide +kernel)⟩
theorem lw_p31 : lw_okq (⟨"NotTwice$People", "lookInto", "(I)V"⟩, 14) := ⟨⟨by decide +kernel, by decide +kernel⟩, List.mem_of_getElem? (i := 315) (by decide +kernel), List.mem_of_getElem? (i := 580) (by decide +kernel), List.mem_of_getElem? (i := 581) (by decide +kernel)⟩
def lw_privs_2 : List (MethodName × Nat) := [(⟨"NotTwice$Shelf", "has", "(I)Z"⟩, 5), (⟨"NotTwice$Shelf", "join", "(II)V"⟩, 5), (⟨"NotTwice$Shelf", "part", "(I)V"⟩, 5), (⟨"NotTwice$People", "come", "(II)I"⟩, 14), (⟨"NotTwice$People", "sit", "(III)V"⟩, 14), (⟨"NotTwice$People", "has", "(I)Z"⟩, 14), (⟨"NotTwice$People", "hear", "(II)V"⟩, 14), (⟨"NotTwice$People", "forget", "(II)V"⟩, 14), (⟨"NotTwice$Shelf", "stays", "(I)I"⟩, 5), (⟨"NotTwice$Shelf", "counts", "(II)I"⟩, 5), (⟨"NotTwice$People", "knows", "(I)I"⟩, 14), (⟨"NotTwice$Shelf", "withTwins", "(I)I"⟩, 5), (⟨"NotTwice$Reader", "place", "()I"⟩, 9), (⟨"NotTwice$Texts", "has", "(I)Z"⟩, 4), (⟨"NotTwice$People", "tellableIn", "(I)I"⟩, 14), (⟨"NotTwice$People", "lookInto", "(I)V"⟩, 14)]
theorem lw_r2 : ∀ q ∈ lw_privs_2, lw_okq q := List.forall_mem_cons.mpr ⟨lw_p16, List.forall_mem_cons.mpr ⟨lw_p17, List.forall_mem_cons.mpr ⟨lw_p18, List.forall_mem_cons.mpr ⟨lw_p19, List.forall_mem_cons.mpr ⟨lw_p20, List.forall_mem_cons.mpr ⟨lw_p21, List.forall_mem_cons.mpr ⟨lw_p22, List.forall_mem_cons.mpr ⟨lw_p23, List.forall_mem_cons.mpr ⟨lw_p24, List.forall_mem_cons.mpr ⟨lw_p25, List.forall_mem_cons.mpr ⟨lw_p26, List.forall_mem_cons.mpr ⟨lw_p27, List.forall_mem_cons.mpr ⟨lw_p28, List.forall_mem_cons.mpr ⟨lw_p29, List.forall_mem_cons.mpr ⟨lw_p30, List.forall_mem_cons.mpr ⟨lw_p31, fun _ h => absurd h List.not_mem_nil⟩⟩⟩⟩⟩⟩⟩⟩⟩⟩⟩⟩⟩⟩⟩⟩
theorem lw_p32 : lw_okq (⟨"NotTwice$People", "tellableOf", "(II)I"⟩, 14) := ⟨⟨by decide +kernel, by decide +kernel⟩, List.mem_of_getElem? (i := 315) (by decide +kernel), List.mem_of_getElem? (i := 585) (by decide +kernel), List.mem_of_getElem? (i := 586) (by decide +kernel)⟩
theorem lw_p33 : lw_okq (⟨"NotTwice$People", "newToOthers", "(I)I"⟩, 14) := ⟨⟨by decide +kernel, by decide +kernel⟩, List.mem_of_getElem? (i := 315) (by decide +kernel), List.mem_of_getElem? (i := 589) (by decide +kernel), List.mem_of_getElem? (i := 590) (by decide +kernel)⟩
theorem lw_p34 : lw_okq (⟨"NotTwice$Shelf", "all", "()I"⟩, 5) := ⟨⟨by decide +kernel, by decide +kernel⟩, List.mem_of_getElem? (i := 27) (by decide +kernel), List.mem_of_getElem? (i := 593) (by decide +kernel), List.mem_of_getElem? (i := 594) (by decide +kernel)⟩
theorem lw_p35 : lw_okq (⟨"NotTwice$People", "value", "(IIII)I"⟩, 14) := ⟨⟨by decide +kernel, by decide +kernel⟩, List.mem_of_getElem? (i := 315) (by decide +kernel), List.mem_of_getElem? (i := 597) (by decide +kernel), List.mem_of_getElem? (i := 598) (by decide +kernel)⟩
theorem lw_p36 : lw_okq (⟨"NotTwice$Texts", "at", "(I)LNotTwice$Rule;"⟩, 4) := ⟨⟨by decide +kernel, by decide +kernel⟩, List.mem_of_getElem? (i := 57) (by decide +kernel), List.mem_of_getElem? (i := 601) (by decide +kernel), List.mem_of_getElem? (i := 602) (by decide +kernel)⟩
theorem lw_p37 : lw_okq (⟨"NotTwice$Rule", "value", "(I[I[I)I"⟩, 3) := ⟨⟨by decide +kernel, by decide +kernel⟩, List.mem_of_getElem? (i := 283) (by decide +kernel), List.mem_of_getElem? (i := 612) (by decide +kernel), List.mem_of_getElem? (i := 613) (by decide +kernel)⟩
theorem lw_p38 : lw_okq (⟨"NotTwice$People", "byWhom", "(II)I"⟩, 14) := ⟨⟨by decide +kernel, by decide +kernel⟩, List.mem_of_getElem? (i := 315) (by decide +kernel), List.mem_of_getElem? (i := 623) (by decide +kernel), List.mem_of_getElem? (i := 624) (by decide +kernel)⟩
theorem lw_p39 : lw_okq (⟨"NotTwice$People", "firstTeller", "(II)I"⟩, 14) := ⟨⟨by decide +kernel, by decide +kernel⟩, List.mem_of_getElem? (i := 315) (by decide +kernel), List.mem_of_getElem? (i := 627) (by decide +kernel), List.mem_of_getElem? (i := 628) (by decide +kernel)⟩
theorem lw_p40 : lw_okq (⟨"NotTwice$People", "worthOf", "(II)J"⟩, 14) := ⟨⟨by decide +kernel, by decide +kernel⟩, List.mem_of_getElem? (i := 315) (by decide +kernel), List.mem_of_getElem? (i := 635) (by decide +kernel), List.mem_of_getElem? (i := 636) (by decide +kernel)⟩
theorem lw_p41 : lw_okq (⟨"NotTwice$People", "worthBy", "(II)J"⟩, 14) := ⟨⟨by decide +kernel, by decide +kernel⟩, List.mem_of_getElem? (i := 315) (by decide +kernel), List.mem_of_getElem? (i := 640) (by decide +kernel), List.mem_of_getElem? (i := 641) (by decide +kernel)⟩
theorem lw_p42 : lw_okq (⟨"NotTwice$People", "bestOf", "(I)I"⟩, 14) := ⟨⟨by decide +kernel, by decide +kernel⟩, List.mem_of_getElem? (i := 315) (by decide +kernel), List.mem_of_getElem? (i := 654) (by decide +kernel), List.mem_of_getElem? (i := 655) (by decide +kernel)⟩
theorem lw_p43 : lw_okq (⟨"NotTwice$People", "spend", "(II)I"⟩, 14) := ⟨⟨by decide +kernel, by decide +kernel⟩, List.mem_of_getElem? (i := 315) (by decide +kernel), List.mem_of_getElem? (i := 662) (by decide +kernel), List.mem_of_getElem? (i := 663) (by decide +kernel)⟩
theorem lw_p44 : lw_okq (⟨"NotTwice$People", "sleep", "()V"⟩, 14) := ⟨⟨by decide +kernel, by decide +kernel⟩, List.mem_of_getElem? (i := 315) (by decide +kernel), List.mem_of_getElem? (i := 671) (by decide +kernel), List.mem_of_getElem? (i := 672) (by decide +kernel)⟩
theorem lw_p45 : lw_okq (⟨"NotTwice$People", "unheardIn", "(I)I"⟩, 14) := ⟨⟨by decide +kernel, by decide +kernel⟩, List.mem_of_getElem? (i := 315) (by decide +kernel), List.mem_of_getElem? (i := 681) (by decide +kernel), List.mem_of_getElem? (i := 682) (by decide +kernel)⟩
theorem lw_p46 : lw_okq (⟨"NotTwice", "canTellAll", "(II)Z"⟩, 9) := ⟨⟨by decide +kernel, by decide +kernel⟩, List.mem_of_getElem? (i := 19) (by decide +kernel), List.mem_of_getElem? (i := 686) (by decide +kernel), List.mem_of_getElem? (i := 687) (by decide +kernel)⟩
theorem lw_p47 : lw_okq (⟨"NotTwice$People", "takeAll", "(LNotTwice$People;)V"⟩, 14) := ⟨⟨by decide +kernel, by decide +kernel⟩, List.mem_of_getElem? (i := 315) (by decide +kernel), List.mem_of_getElem? (i := 690) (by decide +kernel), List.mem_of_getElem? (i := 691) (by decide +kernel)⟩
def lw_privs_3 : List (MethodName × Nat) := [(⟨"NotTwice$People", "tellableOf", "(II)I"⟩, 14), (⟨"NotTwice$People", "newToOthers", "(I)I"⟩, 14), (⟨"NotTwice$Shelf", "all", "()I"⟩, 5), (⟨"NotTwice$People", "value", "(IIII)I"⟩, 14), (⟨"NotTwice$Texts", "at", "(I)LNotTwice$Rule;"⟩, 4), (⟨"NotTwice$Rule", "value", "(I[I[I)I"⟩, 3), (⟨"NotTwice$People", "byWhom", "(II)I"⟩, 14), (⟨"NotTwice$People", "firstTeller", "(II)I"⟩, 14), (⟨"NotTwice$People", "worthOf", "(II)J"⟩, 14), (⟨"NotTwice$People", "worthBy", "(II)J"⟩, 14), (⟨"NotTwice$People", "bestOf", "(I)I"⟩, 14), (⟨"NotTwice$People", "spend", "(II)I"⟩, 14), (⟨"NotTwice$People", "sleep", "()V"⟩, 14), (⟨"NotTwice$People", "unheardIn", "(I)I"⟩, 14), (⟨"NotTwice", "canTellAll", "(II)Z"⟩, 9), (⟨"NotTwice$People", "takeAll", "(LNotTwice$People;)V"⟩, 14)]
theorem lw_r3 : ∀ q ∈ lw_privs_3, lw_okq q := List.forall_mem_cons.mpr ⟨lw_p32, List.forall_mem_cons.mpr ⟨lw_p33, List.forall_mem_cons.mpr ⟨lw_p34, List.forall_mem_cons.mpr ⟨lw_p35, List.forall_mem_cons.mpr ⟨lw_p36, List.forall_mem_cons.mpr ⟨lw_p37, List.forall_mem_cons.mpr ⟨lw_p38, List.forall_mem_cons.mpr ⟨lw_p39, List.forall_mem_cons.mpr ⟨lw_p40, List.forall_mem_cons.mpr ⟨lw_p41, List.forall_mem_cons.mpr ⟨lw_p42, List.forall_mem_cons.mpr ⟨lw_p43, List.forall_mem_cons.mpr ⟨lw_p44, List.forall_mem_cons.mpr ⟨lw_p45, List.forall_mem_cons.mpr ⟨lw_p46, List.forall_mem_cons.mpr ⟨lw_p47, fun _ h => absurd h List.not_mem_nil⟩⟩⟩⟩⟩⟩⟩⟩⟩⟩⟩⟩⟩⟩⟩⟩
theorem lw_p48 : lw_okq (⟨"NotTwice$People", "goBackTo", "(LNotTwice$People;)V"⟩, 14) := ⟨⟨by decide +kernel, by decide +kernel⟩, List.mem_of_getElem? (i := 315) (by decide +kernel), List.mem_of_getElem? (i := 695) (by decide +kernel), List.mem_of_getElem? (i := 696) (by decide +kernel)⟩
theorem lw_p49 : lw_okq (⟨"NotTwice$Seating", "waysOver", "(I)I"⟩, 9) := ⟨⟨by decide +kernel, by decide +kernel⟩, List.mem_of_getElem? (i := 374) (by decide +kernel), List.mem_of_getElem? (i := 703) (by decide +kernel), List.mem_of_getElem? (i := 704) (by decide +kernel)⟩
theorem lw_p50 : lw_okq (⟨"NotTwice$Seating", "search", "(I)V"⟩, 9) := ⟨⟨by decide +kernel, by decide +kernel⟩, List.mem_of_getElem? (i := 374) (by decide +kernel), List.mem_of_getElem? (i := 707) (by decide +kernel), List.mem_of_getElem? (i := 708) (by decide +kernel)⟩
theorem lw_p51 : lw_okq (⟨"NotTwice$Seating", "prepare", "()V"⟩, 9) := ⟨⟨by decide +kernel, by decide +kernel⟩, List.mem_of_getElem? (i := 374) (by decide +kernel), List.mem_of_getElem? (i := 711) (by decide +kernel), List.mem_of_getElem? (i := 712) (by decide +kernel)⟩
theorem lw_p52 : lw_okq (⟨"NotTwice$Seating", "awakeOf", "(II)I"⟩, 9) := ⟨⟨by decide +kernel, by decide +kernel⟩, List.mem_of_getElem? (i := 374) (by decide +kernel), List.mem_of_getElem? (i := 716) (by decide +kernel), List.mem_of_getElem? (i := 717) (by decide +kernel)⟩
theorem lw_p53 : lw_okq (⟨"NotTwice$Seating", "housesWithStory", "(I)I"⟩, 9) := ⟨⟨by decide +kernel, by decide +kernel⟩, List.mem_of_getElem? (i := 374) (by decide +kernel), List.mem_of_getElem? (i := 724) (by decide +kernel), List.mem_of_getElem? (i := 725) (by decide +kernel)⟩
theorem lw_p54 : lw_okq (⟨"NotTwice$Seating", "fillHouses", "(I)V"⟩, 9) := ⟨⟨by decide +kernel, by decide +kernel⟩, List.mem_of_getElem? (i := 374) (by decide +kernel), List.mem_of_getElem? (i := 728) (by decide +kernel), List.mem_of_getElem? (i := 729) (by decide +kernel)⟩
theorem lw_p55 : lw_okq (⟨"NotTwice$Seating", "nextWay", "(I)V"⟩, 9) := ⟨⟨by decide +kernel, by decide +kernel⟩, List.mem_of_getElem? (i := 374) (by decide +kernel), List.mem_of_getElem? (i := 734) (by decide +kernel), List.mem_of_getElem? (i := 735) (by decide +kernel)⟩
theorem lw_p56 : lw_okq (⟨"NotTwice$People", "tellableBy", "(I)I"⟩, 14) := ⟨⟨by decide +kernel, by decide +kernel⟩, List.mem_of_getElem? (i := 315) (by decide +kernel), List.mem_of_getElem? (i := 746) (by decide +kernel), List.mem_of_getElem? (i := 747) (by decide +kernel)⟩
theorem lw_p57 : lw_okq (⟨"NotTwice$Sheets", "has", "(I)Z"⟩, 3) := ⟨⟨by decide +kernel, by decide +kernel⟩, List.mem_of_getElem? (i := 410) (by decide +kernel), List.mem_of_getElem? (i := 764) (by decide +kernel), List.mem_of_getElem? (i := 765) (by decide +kernel)⟩
theorem lw_p58 : lw_okq (⟨"NotTwice$Sheets", "isMissing", "(I)Z"⟩, 3) := ⟨⟨by decide +kernel, by decide +kernel⟩, List.mem_of_getElem? (i := 410) (by decide +kernel), List.mem_of_getElem? (i := 769) (by decide +kernel), List.mem_of_getElem? (i := 770) (by decide +kernel)⟩
theorem lw_p59 : lw_okq (⟨"NotTwice$Sheets", "at", "(II)I"⟩, 3) := ⟨⟨by decide +kernel, by decide +kernel⟩, List.mem_of_getElem? (i := 410) (by decide +kernel), List.mem_of_getElem? (i := 773) (by decide +kernel), List.mem_of_getElem? (i := 774) (by decide +kernel)⟩
theorem lw_p60 : lw_okq (⟨"NotTwice$Sheets", "lay", "(III)V"⟩, 3) := ⟨⟨by decide +kernel, by decide +kernel⟩, List.mem_of_getElem? (i := 410) (by decide +kernel), List.mem_of_getElem? (i := 799) (by decide +kernel), List.mem_of_getElem? (i := 800) (by decide +kernel)⟩
theorem lw_p61 : lw_okq (⟨"NotTwice$Sheets", "reaches", "(II)Z"⟩, 3) := ⟨⟨by decide +kernel, by decide +kernel⟩, List.mem_of_getElem? (i := 410) (by decide +kernel), List.mem_of_getElem? (i := 807) (by decide +kernel), List.mem_of_getElem? (i := 808) (by decide +kernel)⟩
theorem lw_p62 : lw_okq (⟨"NotTwice$Sheets", "write", "(III)V"⟩, 3) := ⟨⟨by decide +kernel, by decide +kernel⟩, List.mem_of_getElem? (i := 410) (by decide +kernel), List.mem_of_getElem? (i := 811) (by decide +kernel), List.mem_of_getElem? (i := 812) (by decide +kernel)⟩
theorem lw_p63 : lw_okq (⟨"NotTwice$Sheets", "hasRun", "(III)Z"⟩, 3) := ⟨⟨by decide +kernel, by decide +kernel⟩, List.mem_of_getElem? (i := 410) (by decide +kernel), List.mem_of_getElem? (i := 819) (by decide +kernel), List.mem_of_getElem? (i := 820) (by decide +kernel)⟩
def lw_privs_4 : List (MethodName × Nat) := [(⟨"NotTwice$People", "goBackTo", "(LNotTwice$People;)V"⟩, 14), (⟨"NotTwice$Seating", "waysOver", "(I)I"⟩, 9), (⟨"NotTwice$Seating", "search", "(I)V"⟩, 9), (⟨"NotTwice$Seating", "prepare", "()V"⟩, 9), (⟨"NotTwice$Seating", "awakeOf", "(II)I"⟩, 9), (⟨"NotTwice$Seating", "housesWithStory", "(I)I"⟩, 9), (⟨"NotTwice$Seating", "fillHouses", "(I)V"⟩, 9), (⟨"NotTwice$Seating", "nextWay", "(I)V"⟩, 9), (⟨"NotTwice$People", "tellableBy", "(I)I"⟩, 14), (⟨"NotTwice$Sheets", "has", "(I)Z"⟩, 3), (⟨"NotTwice$Sheets", "isMissing", "(I)Z"⟩, 3), (⟨"NotTwice$Sheets", "at", "(II)I"⟩, 3), (⟨"NotTwice$Sheets", "lay", "(III)V"⟩, 3), (⟨"NotTwice$Sheets", "reaches", "(II)Z"⟩, 3), (⟨"NotTwice$Sheets", "write", "(III)V"⟩, 3), (⟨"NotTwice$Sheets", "hasRun", "(III)Z"⟩, 3)]
theorem lw_r4 : ∀ q ∈ lw_privs_4, lw_okq q := List.forall_mem_cons.mpr ⟨lw_p48, List.forall_mem_cons.mpr ⟨lw_p49, List.forall_mem_cons.mpr ⟨lw_p50, List.forall_mem_cons.mpr ⟨lw_p51, List.forall_mem_cons.mpr ⟨lw_p52, List.forall_mem_cons.mpr ⟨lw_p53, List.forall_mem_cons.mpr ⟨lw_p54, List.forall_mem_cons.mpr ⟨lw_p55, List.forall_mem_cons.mpr ⟨lw_p56, List.forall_mem_cons.mpr ⟨lw_p57, List.forall_mem_cons.mpr ⟨lw_p58, List.forall_mem_cons.mpr ⟨lw_p59, List.forall_mem_cons.mpr ⟨lw_p60, List.forall_mem_cons.mpr ⟨lw_p61, List.forall_mem_cons.mpr ⟨lw_p62, List.forall_mem_cons.mpr ⟨lw_p63, fun _ h => absurd h List.not_mem_nil⟩⟩⟩⟩⟩⟩⟩⟩⟩⟩⟩⟩⟩⟩⟩⟩
theorem lw_p64 : lw_okq (⟨"NotTwice$Sheets", "carry", "(IIIII)V"⟩, 3) := ⟨⟨by decide +kernel, by decide +kernel⟩, List.mem_of_getElem? (i := 410) (by decide +kernel), List.mem_of_getElem? (i := 823) (by decide +kernel), List.mem_of_getElem? (i := 824) (by decide +kernel)⟩
theorem lw_p65 : lw_okq (⟨"NotTwice$Shelf", "isUnder", "(II)Z"⟩, 5) := ⟨⟨by decide +kernel, by decide +kernel⟩, List.mem_of_getElem? (i := 27) (by decide +kernel), List.mem_of_getElem? (i := 836) (by decide +kernel), List.mem_of_getElem? (i := 837) (by decide +kernel)⟩
theorem lw_p66 : lw_okq (⟨"NotTwiceModel", "spell", "(IIIIIIIII)V"⟩, 51) := ⟨⟨by decide +kernel, by decide +kernel⟩, List.mem_of_getElem? (i := 842) (by decide +kernel), List.mem_of_getElem? (i := 848) (by decide +kernel), List.mem_of_getElem? (i := 849) (by decide +kernel)⟩
theorem lw_p67 : lw_okq (⟨"NotTwiceModel", "isStory", "(I)Z"⟩, 51) := ⟨⟨by decide +kernel, by decide +kernel⟩, List.mem_of_getElem? (i := 842) (by decide +kernel), List.mem_of_getElem? (i := 1019) (by decide +kernel), List.mem_of_getElem? (i := 1020) (by decide +kernel)⟩
theorem lw_p68 : lw_okq (⟨"NotTwiceModel", "parts", "(I)V"⟩, 51) := ⟨⟨by decide +kernel, by decide +kernel⟩, List.mem_of_getElem? (i := 842) (by decide +kernel), List.mem_of_getElem? (i := 1023) (by decide +kernel), List.mem_of_getElem? (i := 1024) (by decide +kernel)⟩
theorem lw_p69 : lw_okq (⟨"NotTwiceModel", "isPerson", "(I)Z"⟩, 51) := ⟨⟨by decide +kernel, by decide +kernel⟩, List.mem_of_getElem? (i := 842) (by decide +kernel), List.mem_of_getElem? (i := 1038) (by decide +kernel), List.mem_of_getElem? (i := 1039) (by decide +kernel)⟩
theorem lw_p70 : lw_okq (⟨"NotTwiceModel", "stays", "(I)I"⟩, 51) := ⟨⟨by decide +kernel, by decide +kernel⟩, List.mem_of_getElem? (i := 842) (by decide +kernel), List.mem_of_getElem? (i := 1052) (by decide +kernel), List.mem_of_getElem? (i := 1053) (by decide +kernel)⟩
theorem lw_p71 : lw_okq (⟨"NotTwiceModel", "counts", "(II)I"⟩, 51) := ⟨⟨by decide +kernel, by decide +kernel⟩, List.mem_of_getElem? (i := 842) (by decide +kernel), List.mem_of_getElem? (i := 1056) (by decide +kernel), List.mem_of_getElem? (i := 1057) (by decide +kernel)⟩
theorem lw_p72 : lw_okq (⟨"NotTwiceModel", "known", "(I)I"⟩, 51) := ⟨⟨by decide +kernel, by decide +kernel⟩, List.mem_of_getElem? (i := 842) (by decide +kernel), List.mem_of_getElem? (i := 1065) (by decide +kernel), List.mem_of_getElem? (i := 1066) (by decide +kernel)⟩
theorem lw_p73 : lw_okq (⟨"NotTwiceModel", "read", "(II)I"⟩, 51) := ⟨⟨by decide +kernel, by decide +kernel⟩, List.mem_of_getElem? (i := 842) (by decide +kernel), List.mem_of_getElem? (i := 1077) (by decide +kernel), List.mem_of_getElem? (i := 1078) (by decide +kernel)⟩
theorem lw_p74 : lw_okq (⟨"NotTwiceModel", "next", "()V"⟩, 51) := ⟨⟨by decide +kernel, by decide +kernel⟩, List.mem_of_getElem? (i := 842) (by decide +kernel), List.mem_of_getElem? (i := 1081) (by decide +kernel), List.mem_of_getElem? (i := 1082) (by decide +kernel)⟩
theorem lw_p75 : lw_okq (⟨"NotTwiceModel", "byteAt", "(I)I"⟩, 51) := ⟨⟨by decide +kernel, by decide +kernel⟩, List.mem_of_getElem? (i := 842) (by decide +kernel), List.mem_of_getElem? (i := 1085) (by decide +kernel), List.mem_of_getElem? (i := 1086) (by decide +kernel)⟩
theorem lw_p76 : lw_okq (⟨"NotTwiceModel", "isWord", "(IIIIIIII)Z"⟩, 51) := ⟨⟨by decide +kernel, by decide +kernel⟩, List.mem_of_getElem? (i := 842) (by decide +kernel), List.mem_of_getElem? (i := 1094) (by decide +kernel), List.mem_of_getElem? (i := 1095) (by decide +kernel)⟩
theorem lw_p77 : lw_okq (⟨"NotTwiceModel", "isLetter", "(II)Z"⟩, 51) := ⟨⟨by decide +kernel, by decide +kernel⟩, List.mem_of_getElem? (i := 842) (by decide +kernel), List.mem_of_getElem? (i := 1098) (by decide +kernel), List.mem_of_getElem? (i := 1099) (by decide +kernel)⟩
theorem lw_p78 : lw_okq (⟨"NotTwiceModel", "part", "(Z)I"⟩, 51) := ⟨⟨by decide +kernel, by decide +kernel⟩, List.mem_of_getElem? (i := 842) (by decide +kernel), List.mem_of_getElem? (i := 1102) (by decide +kernel), List.mem_of_getElem? (i := 1103) (by decide +kernel)⟩
theorem lw_p79 : lw_okq (⟨"NotTwiceModel", "fail", "()V"⟩, 51) := ⟨⟨by decide +kernel, by decide +kernel⟩, List.mem_of_getElem? (i := 842) (by decide +kernel), List.mem_of_getElem? (i := 1106) (by decide +kernel), List.mem_of_getElem? (i := 1107) (by decide +kernel)⟩
def lw_privs_5 : List (MethodName × Nat) := [(⟨"NotTwice$Sheets", "carry", "(IIIII)V"⟩, 3), (⟨"NotTwice$Shelf", "isUnder", "(II)Z"⟩, 5), (⟨"NotTwiceModel", "spell", "(IIIIIIIII)V"⟩, 51), (⟨"NotTwiceModel", "isStory", "(I)Z"⟩, 51), (⟨"NotTwiceModel", "parts", "(I)V"⟩, 51), (⟨"NotTwiceModel", "isPerson", "(I)Z"⟩, 51), (⟨"NotTwiceModel", "stays", "(I)I"⟩, 51), (⟨"NotTwiceModel", "counts", "(II)I"⟩, 51), (⟨"NotTwiceModel", "known", "(I)I"⟩, 51), (⟨"NotTwiceModel", "read", "(II)I"⟩, 51), (⟨"NotTwiceModel", "next", "()V"⟩, 51), (⟨"NotTwiceModel", "byteAt", "(I)I"⟩, 51), (⟨"NotTwiceModel", "isWord", "(IIIIIIII)Z"⟩, 51), (⟨"NotTwiceModel", "isLetter", "(II)Z"⟩, 51), (⟨"NotTwiceModel", "part", "(Z)I"⟩, 51), (⟨"NotTwiceModel", "fail", "()V"⟩, 51)]
theorem lw_r5 : ∀ q ∈ lw_privs_5, lw_okq q := List.forall_mem_cons.mpr ⟨lw_p64, List.forall_mem_cons.mpr ⟨lw_p65, List.forall_mem_cons.mpr ⟨lw_p66, List.forall_mem_cons.mpr ⟨lw_p67, List.forall_mem_cons.mpr ⟨lw_p68, List.forall_mem_cons.mpr ⟨lw_p69, List.forall_mem_cons.mpr ⟨lw_p70, List.forall_mem_cons.mpr ⟨lw_p71, List.forall_mem_cons.mpr ⟨lw_p72, List.forall_mem_cons.mpr ⟨lw_p73, List.forall_mem_cons.mpr ⟨lw_p74, List.forall_mem_cons.mpr ⟨lw_p75, List.forall_mem_cons.mpr ⟨lw_p76, List.forall_mem_cons.mpr ⟨lw_p77, List.forall_mem_cons.mpr ⟨lw_p78, List.forall_mem_cons.mpr ⟨lw_p79, fun _ h => absurd h List.not_mem_nil⟩⟩⟩⟩⟩⟩⟩⟩⟩⟩⟩⟩⟩⟩⟩⟩
theorem lw_p80 : lw_okq (⟨"NotTwiceModel", "either", "()I"⟩, 51) := ⟨⟨by decide +kernel, by decide +kernel⟩, List.mem_of_getElem? (i := 842) (by decide +kernel), List.mem_of_getElem? (i := 1110) (by decide +kernel), List.mem_of_getElem? (i := 1111) (by decide +kernel)⟩
theorem lw_p81 : lw_okq (⟨"NotTwiceModel", "both", "()I"⟩, 51) := ⟨⟨by decide +kernel, by decide +kernel⟩, List.mem_of_getElem? (i := 842) (by decide +kernel), List.mem_of_getElem? (i := 1114) (by decide +kernel), List.mem_of_getElem? (i := 1115) (by decide +kernel)⟩
theorem lw_p82 : lw_okq (⟨"NotTwiceModel", "not", "()I"⟩, 51) := ⟨⟨by decide +kernel, by decide +kernel⟩, List.mem_of_getElem? (i := 842) (by decide +kernel), List.mem_of_getElem? (i := 1118) (by decide +kernel), List.mem_of_getElem? (i := 1119) (by decide +kernel)⟩
theorem lw_p83 : lw_okq (⟨"NotTwiceModel", "opens", "()Z"⟩, 51) := ⟨⟨by decide +kernel, by decide +kernel⟩, List.mem_of_getElem? (i := 842) (by decide +kernel), List.mem_of_getElem? (i := 1122) (by decide +kernel), List.mem_of_getElem? (i := 1123) (by decide +kernel)⟩
theorem lw_p84 : lw_okq (⟨"NotTwiceModel", "added", "()I"⟩, 51) := ⟨⟨by decide +kernel, by decide +kernel⟩, List.mem_of_getElem? (i := 842) (by decide +kernel), List.mem_of_getElem? (i := 1126) (by decide +kernel), List.mem_of_getElem? (i := 1127) (by decide +kernel)⟩
theorem lw_p85 : lw_okq (⟨"NotTwiceModel", "term", "()I"⟩, 51) := ⟨⟨by decide +kernel, by decide +kernel⟩, List.mem_of_getElem? (i := 842) (by decide +kernel), List.mem_of_getElem? (i := 1130) (by decide +kernel), List.mem_of_getElem? (i := 1131) (by decide +kernel)⟩
theorem lw_p86 : lw_okq (⟨"NotTwiceModel", "atom", "()I"⟩, 51) := ⟨⟨by decide +kernel, by decide +kernel⟩, List.mem_of_getElem? (i := 842) (by decide +kernel), List.mem_of_getElem? (i := 1134) (by decide +kernel), List.mem_of_getElem? (i := 1135) (by decide +kernel)⟩
theorem lw_p87 : lw_okq (⟨"NotTwiceModel", "isSign", "(I)Z"⟩, 51) := ⟨⟨by decide +kernel, by decide +kernel⟩, List.mem_of_getElem? (i := 842) (by decide +kernel), List.mem_of_getElem? (i := 1138) (by decide +kernel), List.mem_of_getElem? (i := 1139) (by decide +kernel)⟩
theorem lw_p88 : lw_okq (⟨"NotTwiceModel", "name", "()I"⟩, 51) := ⟨⟨by decide +kernel, by decide +kernel⟩, List.mem_of_getElem? (i := 842) (by decide +kernel), List.mem_of_getElem? (i := 1142) (by decide +kernel), List.mem_of_getElem? (i := 1143) (by decide +kernel)⟩
theorem lw_p89 : lw_okq (⟨"NotTwiceModel", "allMay", "(I)I"⟩, 51) := ⟨⟨by decide +kernel, by decide +kernel⟩, List.mem_of_getElem? (i := 842) (by decide +kernel), List.mem_of_getElem? (i := 1159) (by decide +kernel), List.mem_of_getElem? (i := 1160) (by decide +kernel)⟩
theorem lw_p90 : lw_okq (⟨"NotTwiceModel", "teller", "(II)I"⟩, 51) := ⟨⟨by decide +kernel, by decide +kernel⟩, List.mem_of_getElem? (i := 842) (by decide +kernel), List.mem_of_getElem? (i := 1163) (by decide +kernel), List.mem_of_getElem? (i := 1164) (by decide +kernel)⟩
theorem lw_p91 : lw_okq (⟨"NotTwiceModel", "sitting", "(I)I"⟩, 51) := ⟨⟨by decide +kernel, by decide +kernel⟩, List.mem_of_getElem? (i := 842) (by decide +kernel), List.mem_of_getElem? (i := 1167) (by decide +kernel), List.mem_of_getElem? (i := 1168) (by decide +kernel)⟩
theorem lw_p92 : lw_okq (⟨"NotTwiceModel", "mayTell", "(III)Z"⟩, 51) := ⟨⟨by decide +kernel, by decide +kernel⟩, List.mem_of_getElem? (i := 842) (by decide +kernel), List.mem_of_getElem? (i := 1171) (by decide +kernel), List.mem_of_getElem? (i := 1172) (by decide +kernel)⟩
theorem lw_p93 : lw_okq (⟨"NotTwiceModel", "knowers", "(I)I"⟩, 51) := ⟨⟨by decide +kernel, by decide +kernel⟩, List.mem_of_getElem? (i := 842) (by decide +kernel), List.mem_of_getElem? (i := 1175) (by decide +kernel), List.mem_of_getElem? (i := 1176) (by decide +kernel)⟩
theorem lw_p94 : lw_okq (⟨"NotTwiceModel", "says", "(IIII)I"⟩, 51) := ⟨⟨by decide +kernel, by decide +kernel⟩, List.mem_of_getElem? (i := 842) (by decide +kernel), List.mem_of_getElem? (i := 1182) (by decide +kernel), List.mem_of_getElem? (i := 1183) (by decide +kernel)⟩
theorem lw_p95 : lw_okq (⟨"NotTwiceModel", "worthBy", "(III)I"⟩, 51) := ⟨⟨by decide +kernel, by decide +kernel⟩, List.mem_of_getElem? (i := 842) (by decide +kernel), List.mem_of_getElem? (i := 1195) (by decide +kernel), List.mem_of_getElem? (i := 1196) (by decide +kernel)⟩
def lw_privs_6 : List (MethodName × Nat) := [(⟨"NotTwiceModel", "either", "()I"⟩, 51), (⟨"NotTwiceModel", "both", "()I"⟩, 51), (⟨"NotTwiceModel", "not", "()I"⟩, 51), (⟨"NotTwiceModel", "opens", "()Z"⟩, 51), (⟨"NotTwiceModel", "added", "()I"⟩, 51), (⟨"NotTwiceModel", "term", "()I"⟩, 51), (⟨"NotTwiceModel", "atom", "()I"⟩, 51), (⟨"NotTwiceModel", "isSign", "(I)Z"⟩, 51), (⟨"NotTwiceModel", "name", "()I"⟩, 51), (⟨"NotTwiceModel", "allMay", "(I)I"⟩, 51), (⟨"NotTwiceModel", "teller", "(II)I"⟩, 51), (⟨"NotTwiceModel", "sitting", "(I)I"⟩, 51), (⟨"NotTwiceModel", "mayTell", "(III)Z"⟩, 51), (⟨"NotTwiceModel", "knowers", "(I)I"⟩, 51), (⟨"NotTwiceModel", "says", "(IIII)I"⟩, 51), (⟨"NotTwiceModel", "worthBy", "(III)I"⟩, 51)]
theorem lw_r6 : ∀ q ∈ lw_privs_6, lw_okq q := List.forall_mem_cons.mpr ⟨lw_p80, List.forall_mem_cons.mpr ⟨lw_p81, List.forall_mem_cons.mpr ⟨lw_p82, List.forall_mem_cons.mpr ⟨lw_p83, List.forall_mem_cons.mpr ⟨lw_p84, List.forall_mem_cons.mpr ⟨lw_p85, List.forall_mem_cons.mpr ⟨lw_p86, List.forall_mem_cons.mpr ⟨lw_p87, List.forall_mem_cons.mpr ⟨lw_p88, List.forall_mem_cons.mpr ⟨lw_p89, List.forall_mem_cons.mpr ⟨lw_p90, List.forall_mem_cons.mpr ⟨lw_p91, List.forall_mem_cons.mpr ⟨lw_p92, List.forall_mem_cons.mpr ⟨lw_p93, List.forall_mem_cons.mpr ⟨lw_p94, List.forall_mem_cons.mpr ⟨lw_p95, fun _ h => absurd h List.not_mem_nil⟩⟩⟩⟩⟩⟩⟩⟩⟩⟩⟩⟩⟩⟩⟩⟩
theorem lw_p96 : lw_okq (⟨"NotTwiceModel", "best", "(I)I"⟩, 51) := ⟨⟨by decide +kernel, by decide +kernel⟩, List.mem_of_getElem? (i := 842) (by decide +kernel), List.mem_of_getElem? (i := 1206) (by decide +kernel), List.mem_of_getElem? (i := 1207) (by decide +kernel)⟩
theorem lw_p97 : lw_okq (⟨"NotTwiceModel", "tellIn", "(III)I"⟩, 51) := ⟨⟨by decide +kernel, by decide +kernel⟩, List.mem_of_getElem? (i := 842) (by decide +kernel), List.mem_of_getElem? (i := 1214) (by decide +kernel), List.mem_of_getElem? (i := 1215) (by decide +kernel)⟩
theorem lw_p98 : lw_okq (⟨"NotTwiceModel", "laysAside", "()V"⟩, 51) := ⟨⟨by decide +kernel, by decide +kernel⟩, List.mem_of_getElem? (i := 842) (by decide +kernel), List.mem_of_getElem? (i := 1226) (by decide +kernel), List.mem_of_getElem? (i := 1227) (by decide +kernel)⟩
theorem lw_p99 : lw_okq (⟨"NotTwiceModel", "canAll", "(II)Z"⟩, 51) := ⟨⟨by decide +kernel, by decide +kernel⟩, List.mem_of_getElem? (i := 842) (by decide +kernel), List.mem_of_getElem? (i := 1230) (by decide +kernel), List.mem_of_getElem? (i := 1231) (by decide +kernel)⟩
theorem lw_p100 : lw_okq (⟨"NotTwiceModel", "laysBack", "()V"⟩, 51) := ⟨⟨by decide +kernel, by decide +kernel⟩, List.mem_of_getElem? (i := 842) (by decide +kernel), List.mem_of_getElem? (i := 1234) (by decide +kernel), List.mem_of_getElem? (i := 1235) (by decide +kernel)⟩
theorem lw_p101 : lw_okq (⟨"NotTwiceModel", "housesWith", "(II)I"⟩, 51) := ⟨⟨by decide +kernel, by decide +kernel⟩, List.mem_of_getElem? (i := 842) (by decide +kernel), List.mem_of_getElem? (i := 1242) (by decide +kernel), List.mem_of_getElem? (i := 1243) (by decide +kernel)⟩
theorem lw_p102 : lw_okq (⟨"NotTwiceModel", "anyMay", "(I)Z"⟩, 51) := ⟨⟨by decide +kernel, by decide +kernel⟩, List.mem_of_getElem? (i := 842) (by decide +kernel), List.mem_of_getElem? (i := 1249) (by decide +kernel), List.mem_of_getElem? (i := 1250) (by decide +kernel)⟩
theorem lw_p103 : lw_okq (⟨"NotTwiceModel", "isTired", "(III)Z"⟩, 51) := ⟨⟨by decide +kernel, by decide +kernel⟩, List.mem_of_getElem? (i := 842) (by decide +kernel), List.mem_of_getElem? (i := 1253) (by decide +kernel), List.mem_of_getElem? (i := 1254) (by decide +kernel)⟩
def lw_privs_7 : List (MethodName × Nat) := [(⟨"NotTwiceModel", "best", "(I)I"⟩, 51), (⟨"NotTwiceModel", "tellIn", "(III)I"⟩, 51), (⟨"NotTwiceModel", "laysAside", "()V"⟩, 51), (⟨"NotTwiceModel", "canAll", "(II)Z"⟩, 51), (⟨"NotTwiceModel", "laysBack", "()V"⟩, 51), (⟨"NotTwiceModel", "housesWith", "(II)I"⟩, 51), (⟨"NotTwiceModel", "anyMay", "(I)Z"⟩, 51), (⟨"NotTwiceModel", "isTired", "(III)Z"⟩, 51)]
theorem lw_r7 : ∀ q ∈ lw_privs_7, lw_okq q := List.forall_mem_cons.mpr ⟨lw_p96, List.forall_mem_cons.mpr ⟨lw_p97, List.forall_mem_cons.mpr ⟨lw_p98, List.forall_mem_cons.mpr ⟨lw_p99, List.forall_mem_cons.mpr ⟨lw_p100, List.forall_mem_cons.mpr ⟨lw_p101, List.forall_mem_cons.mpr ⟨lw_p102, List.forall_mem_cons.mpr ⟨lw_p103, fun _ h => absurd h List.not_mem_nil⟩⟩⟩⟩⟩⟩⟩⟩
def lw_privs : List (MethodName × Nat) := lw_privs_1 ++ (lw_privs_2 ++ (lw_privs_3 ++ (lw_privs_4 ++ (lw_privs_5 ++ (lw_privs_6 ++ (lw_privs_7))))))
def lw_tbl : List Cond := k2_sels lw_privs ++ tables_1
theorem lw_privs_ok : ∀ q ∈ lw_privs, lw_okq q := by
  show ∀ q ∈ lw_privs_1 ++ (lw_privs_2 ++ (lw_privs_3 ++ (lw_privs_4 ++ (lw_privs_5 ++ (lw_privs_6 ++ (lw_privs_7)))))), lw_okq q
  exact List.forall_mem_append.mpr ⟨lw_r1, List.forall_mem_append.mpr ⟨lw_r2, List.forall_mem_append.mpr ⟨lw_r3, List.forall_mem_append.mpr ⟨lw_r4, List.forall_mem_append.mpr ⟨lw_r5, List.forall_mem_append.mpr ⟨lw_r6, lw_r7⟩⟩⟩⟩⟩⟩
-- ===== end of PART A; then your names; then what follows =====
def RX0 : String := "NotTwice$People"
def TX0 : u_T := fun k => match k with
  | 0 => ("NotTwice$People", "shelf", "LNotTwice$Shelf;", true)
  | 1 => ("NotTwice$People", "texts", "LNotTwice$Texts;", true)
  | 2 => ("NotTwice$People", "house", "[I", true)
  | 3 => ("NotTwice$People", "age", "[I", true)
  | 4 => ("NotTwice$People", "tells", "[I", true)
  | 5 => ("NotTwice$People", "heard", "[I", true)
  | 6 => ("NotTwice$People", "since", "[I", true)
  | 7 => ("NotTwice$People", "size", "I", false)
  | 8 => ("NotTwice$People", "night", "I", false)
  | 9 => ("NotTwice$People", "rule", "I", false)
  | 10 => ("NotTwice$People", "many", "I", false)
  | 11 => ("NotTwice$People", "known", "[I", true)
  | 12 => ("NotTwice$People", "knownToOne", "I", false)
  | _ => ("NotTwice$People", "knownToTwo", "I", false)
def tyX0 : Nat → FieldType := fun k => match k with
  | 0 => .object "NotTwice$Shelf"
  | 1 => .object "NotTwice$Texts"
  | 2 => .array .int
  | 3 => .array .int
  | 4 => .array .int
  | 5 => .array .int
  | 6 => .array .int
  | 7 => .int
  | 8 => .int
  | 9 => .int
  | 10 => .int
  | 11 => .array .int
  | 12 => .int
  | _ => .int
abbrev wsX00 : List Cond := u_ws RX0 TX0 14
theorem nmX0 : ∀ a, a < 14 → ∀ b, b < 14 → a ≠ b → (TX0 a).2.1 ≠ (TX0 b).2.1 := by decide +kernel
theorem tyX0_ok : ∀ k, k < 14 → parseFieldDescriptor (TX0 k).2.2.1 = some (tyX0 k) := by decide +kernel
abbrev cX0_init : ByteArray := prog_2_method_1_code
def yX0_init : MethodName := ⟨RX0, "<init>", "(LNotTwice$Shelf;LNotTwice$Texts;)V"⟩
abbrev cX0_has : ByteArray := prog_2_method_2_code
def yX0_has : MethodName := ⟨RX0, "has", "(I)Z"⟩
abbrev cX0_come : ByteArray := prog_2_method_3_code
def yX0_come : MethodName := ⟨RX0, "come", "(II)I"⟩
abbrev cX0_sit : ByteArray := prog_2_method_4_code
def yX0_sit : MethodName := ⟨RX0, "sit", "(III)V"⟩
abbrev cX0_takeAll : ByteArray := prog_2_method_5_code
def yX0_takeAll : MethodName := ⟨RX0, "takeAll", "(LNotTwice$People;)V"⟩
abbrev cX0_goBackTo : ByteArray := prog_2_method_6_code
def yX0_goBackTo : MethodName := ⟨RX0, "goBackTo", "(LNotTwice$People;)V"⟩
abbrev cX0_hear : ByteArray := prog_2_method_7_code
def yX0_hear : MethodName := ⟨RX0, "hear", "(II)V"⟩
abbrev cX0_forget : ByteArray := prog_2_method_8_code
def yX0_forget : MethodName := ⟨RX0, "forget", "(II)V"⟩
abbrev cX0_knows : ByteArray := prog_2_method_9_code
def yX0_knows : MethodName := ⟨RX0, "knows", "(I)I"⟩
abbrev cX0_lookInto : ByteArray := prog_2_method_10_code
def yX0_lookInto : MethodName := ⟨RX0, "lookInto", "(I)V"⟩
abbrev cX0_newToOthers : ByteArray := prog_2_method_11_code
def yX0_newToOthers : MethodName := ⟨RX0, "newToOthers", "(I)I"⟩
abbrev cX0_tellableOf : ByteArray := prog_2_method_12_code
def yX0_tellableOf : MethodName := ⟨RX0, "tellableOf", "(II)I"⟩
abbrev cX0_tellableBy : ByteArray := prog_2_method_13_code
def yX0_tellableBy : MethodName := ⟨RX0, "tellableBy", "(I)I"⟩
abbrev cX0_tellableIn : ByteArray := prog_2_method_14_code
def yX0_tellableIn : MethodName := ⟨RX0, "tellableIn", "(I)I"⟩
abbrev cX0_unheardIn : ByteArray := prog_2_method_15_code
def yX0_unheardIn : MethodName := ⟨RX0, "unheardIn", "(I)I"⟩
abbrev cX0_byWhom : ByteArray := prog_2_method_16_code
def yX0_byWhom : MethodName := ⟨RX0, "byWhom", "(II)I"⟩
abbrev cX0_firstTeller : ByteArray := prog_2_method_17_code
def yX0_firstTeller : MethodName := ⟨RX0, "firstTeller", "(II)I"⟩
abbrev cX0_worthOf : ByteArray := prog_2_method_18_code
def yX0_worthOf : MethodName := ⟨RX0, "worthOf", "(II)J"⟩
abbrev cX0_worthBy : ByteArray := prog_2_method_19_code
def yX0_worthBy : MethodName := ⟨RX0, "worthBy", "(II)J"⟩
abbrev cX0_bestOf : ByteArray := prog_2_method_20_code
def yX0_bestOf : MethodName := ⟨RX0, "bestOf", "(I)I"⟩
abbrev cX0_spend : ByteArray := prog_2_method_21_code
def yX0_spend : MethodName := ⟨RX0, "spend", "(II)I"⟩
abbrev cX0_sleep : ByteArray := prog_2_method_22_code
def yX0_sleep : MethodName := ⟨RX0, "sleep", "()V"⟩
abbrev cX0_value : ByteArray := prog_2_method_23_code
def yX0_value : MethodName := ⟨RX0, "value", "(IIII)I"⟩
abbrev cX0_bounded : ByteArray := prog_2_method_24_code
def yX0_bounded : MethodName := ⟨RX0, "bounded", "(II)I"⟩
def RX1 : String := "NotTwice$Reader"
def TX1 : u_T := fun k => match k with
  | 0 => ("NotTwice$Reader", "tape", "[I", true)
  | 1 => ("NotTwice$Reader", "size", "I", false)
  | 2 => ("NotTwice$Reader", "at", "I", false)
  | 3 => ("NotTwice$Reader", "token", "I", false)
  | 4 => ("NotTwice$Reader", "tokenAt", "I", false)
  | 5 => ("NotTwice$Reader", "open", "I", false)
  | 6 => ("NotTwice$Reader", "code", "[I", true)
  | 7 => ("NotTwice$Reader", "codeSize", "I", false)
  | _ => ("NotTwice$Reader", "partAt", "[I", true)
def tyX1 : Nat → FieldType := fun k => match k with
  | 0 => .array .int
  | 1 => .int
  | 2 => .int
  | 3 => .int
  | 4 => .int
  | 5 => .int
  | 6 => .array .int
  | 7 => .int
  | _ => .array .int
abbrev wsX10 : List Cond := u_ws RX1 TX1 9
theorem nmX1 : ∀ a, a < 9 → ∀ b, b < 9 → a ≠ b → (TX1 a).2.1 ≠ (TX1 b).2.1 := by decide +kernel
theorem tyX1_ok : ∀ k, k < 9 → parseFieldDescriptor (TX1 k).2.2.1 = some (tyX1 k) := by decide +kernel
abbrev cX1_init : ByteArray := prog_3_method_1_code
def yX1_init : MethodName := ⟨RX1, "<init>", "()V"⟩
abbrev cX1_put : ByteArray := prog_3_method_2_code
def yX1_put : MethodName := ⟨RX1, "put", "(I)I"⟩
abbrev cX1_putFirstText : ByteArray := prog_3_method_3_code
def yX1_putFirstText : MethodName := ⟨RX1, "putFirstText", "()V"⟩
abbrev cX1_empty : ByteArray := prog_3_method_4_code
def yX1_empty : MethodName := ⟨RX1, "empty", "()V"⟩
abbrev cX1_place : ByteArray := prog_3_method_5_code
def yX1_place : MethodName := ⟨RX1, "place", "()I"⟩
abbrev cX1_made : ByteArray := prog_3_method_6_code
def yX1_made : MethodName := ⟨RX1, "made", "()LNotTwice$Rule;"⟩
abbrev cX1_reads : ByteArray := prog_3_method_7_code
def yX1_reads : MethodName := ⟨RX1, "reads", "()Z"⟩
abbrev cX1_readsLevel : ByteArray := prog_3_method_8_code
def yX1_readsLevel : MethodName := ⟨RX1, "readsLevel", "(I)Z"⟩
abbrev cX1_levelOf : ByteArray := prog_3_method_9_code
def yX1_levelOf : MethodName := ⟨RX1, "levelOf", "(I)I"⟩
abbrev cX1_readsOpened : ByteArray := prog_3_method_10_code
def yX1_readsOpened : MethodName := ⟨RX1, "readsOpened", "()Z"⟩
abbrev cX1_readsPlain : ByteArray := prog_3_method_11_code
def yX1_readsPlain : MethodName := ⟨RX1, "readsPlain", "()Z"⟩
abbrev cX1_takes : ByteArray := prog_3_method_12_code
def yX1_takes : MethodName := ⟨RX1, "takes", "(I)Z"⟩
abbrev cX1_write : ByteArray := prog_3_method_13_code
def yX1_write : MethodName := ⟨RX1, "write", "(I)V"⟩
abbrev cX1_step : ByteArray := prog_3_method_14_code
def yX1_step : MethodName := ⟨RX1, "step", "()V"⟩
abbrev cX1_isLetter : ByteArray := prog_3_method_15_code
def yX1_isLetter : MethodName := ⟨RX1, "isLetter", "(I)Z"⟩
abbrev cX1_isDigit : ByteArray := prog_3_method_16_code
def yX1_isDigit : MethodName := ⟨RX1, "isDigit", "(I)Z"⟩
abbrev cX1_numeral : ByteArray := prog_3_method_17_code
def yX1_numeral : MethodName := ⟨RX1, "numeral", "()I"⟩
abbrev cX1_word : ByteArray := prog_3_method_18_code
def yX1_word : MethodName := ⟨RX1, "word", "()I"⟩
def RX2 : String := "NotTwice$Rule"
def TX2 : u_T := fun k => match k with
  | 0 => ("NotTwice$Rule", "code", "[I", true)
  | 1 => ("NotTwice$Rule", "paysAt", "I", true)
  | _ => ("NotTwice$Rule", "tiresAt", "I", true)
def tyX2 : Nat → FieldType := fun k => match k with
  | 0 => .array .int
  | 1 => .int
  | _ => .int
abbrev wsX20 : List Cond := u_ws RX2 TX2 3
theorem nmX2 : ∀ a, a < 3 → ∀ b, b < 3 → a ≠ b → (TX2 a).2.1 ≠ (TX2 b).2.1 := by decide +kernel
theorem tyX2_ok : ∀ k, k < 3 → parseFieldDescriptor (TX2 k).2.2.1 = some (tyX2 k) := by decide +kernel
abbrev cX2_init : ByteArray := prog_4_method_1_code
def yX2_init : MethodName := ⟨RX2, "<init>", "([IIII)V"⟩
abbrev cX2_value : ByteArray := prog_4_method_2_code
def yX2_value : MethodName := ⟨RX2, "value", "(I[I[I)I"⟩
abbrev cX2_joined : ByteArray := prog_4_method_3_code
def yX2_joined : MethodName := ⟨RX2, "joined", "(III)I"⟩
def RX3 : String := "NotTwice$Seating"
def TX3 : u_T := fun k => match k with
  | 0 => ("NotTwice$Seating", "people", "LNotTwice$People;", true)
  | 1 => ("NotTwice$Seating", "seat", "[I", true)
  | 2 => ("NotTwice$Seating", "bestSeat", "[I", true)
  | 3 => ("NotTwice$Seating", "best", "I", false)
  | 4 => ("NotTwice$Seating", "known", "[I", true)
  | 5 => ("NotTwice$Seating", "awake", "[I", true)
  | 6 => ("NotTwice$Seating", "many", "[I", true)
  | 7 => ("NotTwice$Seating", "knownToOne", "[I", true)
  | _ => ("NotTwice$Seating", "knownToTwo", "[I", true)
def tyX3 : Nat → FieldType := fun k => match k with
  | 0 => .object "NotTwice$People"
  | 1 => .array .int
  | 2 => .array .int
  | 3 => .int
  | 4 => .array .int
  | 5 => .array .int
  | 6 => .array .int
  | 7 => .array .int
  | _ => .array .int
abbrev wsX30 : List Cond := u_ws RX3 TX3 9
theorem nmX3 : ∀ a, a < 9 → ∀ b, b < 9 → a ≠ b → (TX3 a).2.1 ≠ (TX3 b).2.1 := by decide +kernel
theorem tyX3_ok : ∀ k, k < 9 → parseFieldDescriptor (TX3 k).2.2.1 = some (tyX3 k) := by decide +kernel
abbrev cX3_init : ByteArray := prog_5_method_1_code
def yX3_init : MethodName := ⟨RX3, "<init>", "(LNotTwice$People;)V"⟩
abbrev cX3_waysOver : ByteArray := prog_5_method_2_code
def yX3_waysOver : MethodName := ⟨RX3, "waysOver", "(I)I"⟩
abbrev cX3_search : ByteArray := prog_5_method_3_code
def yX3_search : MethodName := ⟨RX3, "search", "(I)V"⟩
abbrev cX3_prepare : ByteArray := prog_5_method_4_code
def yX3_prepare : MethodName := ⟨RX3, "prepare", "()V"⟩
abbrev cX3_awakeOf : ByteArray := prog_5_method_5_code
def yX3_awakeOf : MethodName := ⟨RX3, "awakeOf", "(II)I"⟩
abbrev cX3_nextWay : ByteArray := prog_5_method_6_code
def yX3_nextWay : MethodName := ⟨RX3, "nextWay", "(I)V"⟩
abbrev cX3_housesWithStory : ByteArray := prog_5_method_7_code
def yX3_housesWithStory : MethodName := ⟨RX3, "housesWithStory", "(I)I"⟩
abbrev cX3_fillHouses : ByteArray := prog_5_method_8_code
def yX3_fillHouses : MethodName := ⟨RX3, "fillHouses", "(I)V"⟩
def RX4 : String := "NotTwice$Sheets"
def TX4 : u_T := fun k => match k with
  | 0 => ("NotTwice$Sheets", "sort", "[I", true)
  | 1 => ("NotTwice$Sheets", "size", "[I", true)
  | _ => ("NotTwice$Sheets", "items", "[I", true)
def tyX4 : Nat → FieldType := fun k => match k with
  | 0 => .array .int
  | 1 => .array .int
  | _ => .array .int
abbrev wsX40 : List Cond := u_ws RX4 TX4 3
theorem nmX4 : ∀ a, a < 3 → ∀ b, b < 3 → a ≠ b → (TX4 a).2.1 ≠ (TX4 b).2.1 := by decide +kernel
theorem tyX4_ok : ∀ k, k < 3 → parseFieldDescriptor (TX4 k).2.2.1 = some (tyX4 k) := by decide +kernel
abbrev cX4_init : ByteArray := prog_6_method_1_code
def yX4_init : MethodName := ⟨RX4, "<init>", "()V"⟩
abbrev cX4_has : ByteArray := prog_6_method_2_code
def yX4_has : MethodName := ⟨RX4, "has", "(I)Z"⟩
abbrev cX4_isMissing : ByteArray := prog_6_method_3_code
def yX4_isMissing : MethodName := ⟨RX4, "isMissing", "(I)Z"⟩
abbrev cX4_reaches : ByteArray := prog_6_method_4_code
def yX4_reaches : MethodName := ⟨RX4, "reaches", "(II)Z"⟩
abbrev cX4_hasRun : ByteArray := prog_6_method_5_code
def yX4_hasRun : MethodName := ⟨RX4, "hasRun", "(III)Z"⟩
abbrev cX4_lay : ByteArray := prog_6_method_6_code
def yX4_lay : MethodName := ⟨RX4, "lay", "(III)V"⟩
abbrev cX4_at : ByteArray := prog_6_method_7_code
def yX4_at : MethodName := ⟨RX4, "at", "(II)I"⟩
abbrev cX4_write : ByteArray := prog_6_method_8_code
def yX4_write : MethodName := ⟨RX4, "write", "(III)V"⟩
abbrev cX4_carry : ByteArray := prog_6_method_9_code
def yX4_carry : MethodName := ⟨RX4, "carry", "(IIIII)V"⟩
def RX5 : String := "NotTwice$Shelf"
def TX5 : u_T := fun k => match k with
  | 0 => ("NotTwice$Shelf", "kind", "[I", true)
  | 1 => ("NotTwice$Shelf", "worth", "[I", true)
  | 2 => ("NotTwice$Shelf", "number", "[I", true)
  | 3 => ("NotTwice$Shelf", "twin", "[I", true)
  | _ => ("NotTwice$Shelf", "size", "I", false)
def tyX5 : Nat → FieldType := fun k => match k with
  | 0 => .array .int
  | 1 => .array .int
  | 2 => .array .int
  | 3 => .array .int
  | _ => .int
abbrev wsX50 : List Cond := u_ws RX5 TX5 5
theorem nmX5 : ∀ a, a < 5 → ∀ b, b < 5 → a ≠ b → (TX5 a).2.1 ≠ (TX5 b).2.1 := by decide +kernel
theorem tyX5_ok : ∀ k, k < 5 → parseFieldDescriptor (TX5 k).2.2.1 = some (tyX5 k) := by decide +kernel
abbrev cX5_init : ByteArray := prog_7_method_1_code
def yX5_init : MethodName := ⟨RX5, "<init>", "()V"⟩
abbrev cX5_has : ByteArray := prog_7_method_2_code
def yX5_has : MethodName := ⟨RX5, "has", "(I)Z"⟩
abbrev cX5_all : ByteArray := prog_7_method_3_code
def yX5_all : MethodName := ⟨RX5, "all", "()I"⟩
abbrev cX5_add : ByteArray := prog_7_method_4_code
def yX5_add : MethodName := ⟨RX5, "add", "(III)I"⟩
abbrev cX5_join : ByteArray := prog_7_method_5_code
def yX5_join : MethodName := ⟨RX5, "join", "(II)V"⟩
abbrev cX5_part : ByteArray := prog_7_method_6_code
def yX5_part : MethodName := ⟨RX5, "part", "(I)V"⟩
abbrev cX5_withTwins : ByteArray := prog_7_method_7_code
def yX5_withTwins : MethodName := ⟨RX5, "withTwins", "(I)I"⟩
abbrev cX5_counts : ByteArray := prog_7_method_8_code
def yX5_counts : MethodName := ⟨RX5, "counts", "(II)I"⟩
abbrev cX5_stays : ByteArray := prog_7_method_9_code
def yX5_stays : MethodName := ⟨RX5, "stays", "(I)I"⟩
abbrev cX5_isUnder : ByteArray := prog_7_method_10_code
def yX5_isUnder : MethodName := ⟨RX5, "isUnder", "(II)Z"⟩
def RX6 : String := "NotTwice$Sign"
def TX6 : u_T := fun k => match k with
  | _ => ("", "", "", false)
def tyX6 : Nat → FieldType := fun k => match k with
  | _ => .int
abbrev wsX60 : List Cond := u_ws RX6 TX6 0
theorem nmX6 : ∀ a, a < 0 → ∀ b, b < 0 → a ≠ b → (TX6 a).2.1 ≠ (TX6 b).2.1 := by decide +kernel
theorem tyX6_ok : ∀ k, k < 0 → parseFieldDescriptor (TX6 k).2.2.1 = some (tyX6 k) := by decide +kernel
def RX7 : String := "NotTwice$Texts"
def TX7 : u_T := fun k => match k with
  | 0 => ("NotTwice$Texts", "rules", "[LNotTwice$Rule;", true)
  | 1 => ("NotTwice$Texts", "names", "[I", true)
  | 2 => ("NotTwice$Texts", "stack", "[I", true)
  | _ => ("NotTwice$Texts", "size", "I", false)
def tyX7 : Nat → FieldType := fun k => match k with
  | 0 => .array (.object "NotTwice$Rule")
  | 1 => .array .int
  | 2 => .array .int
  | _ => .int
abbrev wsX70 : List Cond := u_ws RX7 TX7 4
theorem nmX7 : ∀ a, a < 4 → ∀ b, b < 4 → a ≠ b → (TX7 a).2.1 ≠ (TX7 b).2.1 := by decide +kernel
theorem tyX7_ok : ∀ k, k < 4 → parseFieldDescriptor (TX7 k).2.2.1 = some (tyX7 k) := by decide +kernel
abbrev cX7_init : ByteArray := prog_9_method_1_code
def yX7_init : MethodName := ⟨RX7, "<init>", "()V"⟩
abbrev cX7_has : ByteArray := prog_9_method_2_code
def yX7_has : MethodName := ⟨RX7, "has", "(I)Z"⟩
abbrev cX7_at : ByteArray := prog_9_method_3_code
def yX7_at : MethodName := ⟨RX7, "at", "(I)LNotTwice$Rule;"⟩
abbrev cX7_isFull : ByteArray := prog_9_method_4_code
def yX7_isFull : MethodName := ⟨RX7, "isFull", "()Z"⟩
abbrev cX7_add : ByteArray := prog_9_method_5_code
def yX7_add : MethodName := ⟨RX7, "add", "(LNotTwice$Rule;)I"⟩
def RX8 : String := "NotTwice"
def TX8 : u_T := fun k => match k with
  | 0 => ("NotTwice", "shelf", "LNotTwice$Shelf;", true)
  | 1 => ("NotTwice", "texts", "LNotTwice$Texts;", true)
  | 2 => ("NotTwice", "reader", "LNotTwice$Reader;", true)
  | 3 => ("NotTwice", "now", "LNotTwice$People;", true)
  | 4 => ("NotTwice", "thought", "LNotTwice$People;", true)
  | 5 => ("NotTwice", "image", "LNotTwice$People;", true)
  | 6 => ("NotTwice", "seating", "LNotTwice$Seating;", true)
  | 7 => ("NotTwice", "sheets", "LNotTwice$Sheets;", true)
  | _ => ("NotTwice", "imageKept", "Z", false)
def tyX8 : Nat → FieldType := fun k => match k with
  | 0 => .object "NotTwice$Shelf"
  | 1 => .object "NotTwice$Texts"
  | 2 => .object "NotTwice$Reader"
  | 3 => .object "NotTwice$People"
  | 4 => .object "NotTwice$People"
  | 5 => .object "NotTwice$People"
  | 6 => .object "NotTwice$Seating"
  | 7 => .object "NotTwice$Sheets"
  | _ => .boolean
abbrev wsX80 : List Cond := u_ws RX8 TX8 9
theorem nmX8 : ∀ a, a < 9 → ∀ b, b < 9 → a ≠ b → (TX8 a).2.1 ≠ (TX8 b).2.1 := by decide +kernel
theorem tyX8_ok : ∀ k, k < 9 → parseFieldDescriptor (TX8 k).2.2.1 = some (tyX8 k) := by decide +kernel
abbrev cX8_init : ByteArray := prog_1_method_1_code
def yX8_init : MethodName := ⟨RX8, "<init>", "()V"⟩
abbrev cX8_story : ByteArray := prog_1_method_2_code
def yX8_story : MethodName := ⟨RX8, "story", "(III)I"⟩
abbrev cX8_twin : ByteArray := prog_1_method_3_code
def yX8_twin : MethodName := ⟨RX8, "twin", "(II)I"⟩
abbrev cX8_person : ByteArray := prog_1_method_4_code
def yX8_person : MethodName := ⟨RX8, "person", "(II)I"⟩
abbrev cX8_set : ByteArray := prog_1_method_5_code
def yX8_set : MethodName := ⟨RX8, "set", "(III)I"⟩
abbrev cX8_hears : ByteArray := prog_1_method_6_code
def yX8_hears : MethodName := ⟨RX8, "hears", "(III)I"⟩
abbrev cX8_told : ByteArray := prog_1_method_7_code
def yX8_told : MethodName := ⟨RX8, "told", "(III)I"⟩
abbrev cX8_one : ByteArray := prog_1_method_8_code
def yX8_one : MethodName := ⟨RX8, "one", "(II)I"⟩
abbrev cX8_feed : ByteArray := prog_1_method_9_code
def yX8_feed : MethodName := ⟨RX8, "feed", "(I)I"⟩
abbrev cX8_text : ByteArray := prog_1_method_10_code
def yX8_text : MethodName := ⟨RX8, "text", "()I"⟩
abbrev cX8_force : ByteArray := prog_1_method_11_code
def yX8_force : MethodName := ⟨RX8, "force", "(I)I"⟩
abbrev cX8_may : ByteArray := prog_1_method_12_code
def yX8_may : MethodName := ⟨RX8, "may", "(I)I"⟩
abbrev cX8_by : ByteArray := prog_1_method_13_code
def yX8_by : MethodName := ⟨RX8, "by", "(II)I"⟩
abbrev cX8_worth : ByteArray := prog_1_method_14_code
def yX8_worth : MethodName := ⟨RX8, "worth", "(II)J"⟩
abbrev cX8_most : ByteArray := prog_1_method_15_code
def yX8_most : MethodName := ⟨RX8, "most", "(II)J"⟩
abbrev cX8_tell : ByteArray := prog_1_method_16_code
def yX8_tell : MethodName := ⟨RX8, "tell", "(II)I"⟩
abbrev cX8_pass : ByteArray := prog_1_method_17_code
def yX8_pass : MethodName := ⟨RX8, "pass", "()I"⟩
abbrev cX8_goesOn : ByteArray := prog_1_method_18_code
def yX8_goesOn : MethodName := ⟨RX8, "goesOn", "(II)I"⟩
abbrev cX8_spread : ByteArray := prog_1_method_19_code
def yX8_spread : MethodName := ⟨RX8, "spread", "(II)I"⟩
abbrev cX8_keepAway : ByteArray := prog_1_method_20_code
def yX8_keepAway : MethodName := ⟨RX8, "keepAway", "(I)I"⟩
abbrev cX8_send : ByteArray := prog_1_method_21_code
def yX8_send : MethodName := ⟨RX8, "send", "(II)I"⟩
abbrev cX8_stranger : ByteArray := prog_1_method_22_code
def yX8_stranger : MethodName := ⟨RX8, "stranger", "(III)I"⟩
abbrev cX8_left : ByteArray := prog_1_method_23_code
def yX8_left : MethodName := ⟨RX8, "left", "()I"⟩
abbrev cX8_judge : ByteArray := prog_1_method_24_code
def yX8_judge : MethodName := ⟨RX8, "judge", "(I)I"⟩
abbrev cX8_drawn : ByteArray := prog_1_method_25_code
def yX8_drawn : MethodName := ⟨RX8, "drawn", "(II)I"⟩
abbrev cX8_image : ByteArray := prog_1_method_26_code
def yX8_image : MethodName := ⟨RX8, "image", "()I"⟩
abbrev cX8_back : ByteArray := prog_1_method_27_code
def yX8_back : MethodName := ⟨RX8, "back", "()I"⟩
abbrev cX8_count : ByteArray := prog_1_method_28_code
def yX8_count : MethodName := ⟨RX8, "count", "(I)I"⟩
abbrev cX8_sheet : ByteArray := prog_1_method_29_code
def yX8_sheet : MethodName := ⟨RX8, "sheet", "(III)I"⟩
abbrev cX8_cell : ByteArray := prog_1_method_30_code
def yX8_cell : MethodName := ⟨RX8, "cell", "(III)I"⟩
abbrev cX8_copy : ByteArray := prog_1_method_31_code
def yX8_copy : MethodName := ⟨RX8, "copy", "(IIIII)I"⟩
abbrev cX8_people : ByteArray := prog_1_method_32_code
def yX8_people : MethodName := ⟨RX8, "people", "(IIII)I"⟩
abbrev cX8_taken : ByteArray := prog_1_method_33_code
def yX8_taken : MethodName := ⟨RX8, "taken", "(II)I"⟩
abbrev cX8_isBelow : ByteArray := prog_1_method_34_code
def yX8_isBelow : MethodName := ⟨RX8, "isBelow", "(II)Z"⟩
abbrev cX8_isHouse : ByteArray := prog_1_method_35_code
def yX8_isHouse : MethodName := ⟨RX8, "isHouse", "(I)Z"⟩
abbrev cX8_put : ByteArray := prog_1_method_36_code
def yX8_put : MethodName := ⟨RX8, "put", "([III)I"⟩
abbrev cX8_canTellAll : ByteArray := prog_1_method_37_code
def yX8_canTellAll : MethodName := ⟨RX8, "canTellAll", "(II)Z"⟩
def RX9 : String := "NotTwiceModel"
def TX9 : u_T := fun k => match k with
  | 0 => ("NotTwiceModel", "thrown", "I", false)
  | 1 => ("NotTwiceModel", "texts", "[I", true)
  | 2 => ("NotTwiceModel", "textSize", "[I", true)
  | 3 => ("NotTwiceModel", "textCount", "I", false)
  | 4 => ("NotTwiceModel", "rule", "I", false)
  | 5 => ("NotTwiceModel", "tape", "[I", true)
  | 6 => ("NotTwiceModel", "taped", "I", false)
  | 7 => ("NotTwiceModel", "kinds", "[I", true)
  | 8 => ("NotTwiceModel", "worths", "[I", true)
  | 9 => ("NotTwiceModel", "numbers", "[I", true)
  | 10 => ("NotTwiceModel", "twins", "[I", true)
  | 11 => ("NotTwiceModel", "storyMany", "I", false)
  | 12 => ("NotTwiceModel", "ages", "[I", true)
  | 13 => ("NotTwiceModel", "tells", "[I", true)
  | 14 => ("NotTwiceModel", "heard", "[I", true)
  | 15 => ("NotTwiceModel", "houses", "[I", true)
  | 16 => ("NotTwiceModel", "since", "[I", true)
  | 17 => ("NotTwiceModel", "many", "I", false)
  | 18 => ("NotTwiceModel", "night", "I", false)
  | 19 => ("NotTwiceModel", "ofAge", "I", false)
  | 20 => ("NotTwiceModel", "ofWorth", "I", false)
  | 21 => ("NotTwiceModel", "ofHeard", "I", false)
  | 22 => ("NotTwiceModel", "ofMany", "I", false)
  | 23 => ("NotTwiceModel", "ofNight", "I", false)
  | 24 => ("NotTwiceModel", "ofOwn", "I", false)
  | 25 => ("NotTwiceModel", "from", "I", false)
  | 26 => ("NotTwiceModel", "size", "I", false)
  | 27 => ("NotTwiceModel", "here", "I", false)
  | 28 => ("NotTwiceModel", "token", "I", false)
  | 29 => ("NotTwiceModel", "tokenAt", "I", false)
  | 30 => ("NotTwiceModel", "tokenWorth", "J", false)
  | 31 => ("NotTwiceModel", "open", "I", false)
  | 32 => ("NotTwiceModel", "bad", "Z", false)
  | 33 => ("NotTwiceModel", "fault", "I", false)
  | 34 => ("NotTwiceModel", "bestWorth", "I", false)
  | 35 => ("NotTwiceModel", "heardWas", "[I", true)
  | 36 => ("NotTwiceModel", "housesWas", "[I", true)
  | 37 => ("NotTwiceModel", "sinceWas", "[I", true)
  | 38 => ("NotTwiceModel", "nightWas", "I", false)
  | 39 => ("NotTwiceModel", "knowersOf", "[I", true)
  | 40 => ("NotTwiceModel", "tiredOf", "[I", true)
  | 41 => ("NotTwiceModel", "heardKept", "[I", true)
  | 42 => ("NotTwiceModel", "housesKept", "[I", true)
  | 43 => ("NotTwiceModel", "sinceKept", "[I", true)
  | 44 => ("NotTwiceModel", "manyKept", "I", false)
  | 45 => ("NotTwiceModel", "nightKept", "I", false)
  | 46 => ("NotTwiceModel", "ruleKept", "I", false)
  | 47 => ("NotTwiceModel", "isThere", "[Z", true)
  | 48 => ("NotTwiceModel", "sorts", "[I", true)
  | 49 => ("NotTwiceModel", "sheetSize", "[I", true)
  | _ => ("NotTwiceModel", "items", "[I", true)
def tyX9 : Nat → FieldType := fun k => match k with
  | 0 => .int
  | 1 => .array .int
  | 2 => .array .int
  | 3 => .int
  | 4 => .int
  | 5 => .array .int
  | 6 => .int
  | 7 => .array .int
  | 8 => .array .int
  | 9 => .array .int
  | 10 => .array .int
  | 11 => .int
  | 12 => .array .int
  | 13 => .array .int
  | 14 => .array .int
  | 15 => .array .int
  | 16 => .array .int
  | 17 => .int
  | 18 => .int
  | 19 => .int
  | 20 => .int
  | 21 => .int
  | 22 => .int
  | 23 => .int
  | 24 => .int
  | 25 => .int
  | 26 => .int
  | 27 => .int
  | 28 => .int
  | 29 => .int
  | 30 => .long
  | 31 => .int
  | 32 => .boolean
  | 33 => .int
  | 34 => .int
  | 35 => .array .int
  | 36 => .array .int
  | 37 => .array .int
  | 38 => .int
  | 39 => .array .int
  | 40 => .array .int
  | 41 => .array .int
  | 42 => .array .int
  | 43 => .array .int
  | 44 => .int
  | 45 => .int
  | 46 => .int
  | 47 => .array .boolean
  | 48 => .array .int
  | 49 => .array .int
  | _ => .array .int
abbrev wsX90 : List Cond := u_ws RX9 TX9 51
theorem nmX9 : ∀ a, a < 51 → ∀ b, b < 51 → a ≠ b → (TX9 a).2.1 ≠ (TX9 b).2.1 := by decide +kernel
theorem tyX9_ok : ∀ k, k < 51 → parseFieldDescriptor (TX9 k).2.2.1 = some (tyX9 k) := by decide +kernel
abbrev cX9_in : ByteArray := prog_11_method_2_code
def yX9_in : MethodName := ⟨RX9, "in", "(JJJ)Z"⟩
abbrev cX9_within : ByteArray := prog_11_method_3_code
def yX9_within : MethodName := ⟨RX9, "within", "(III)I"⟩
abbrev cX9_bitsOf : ByteArray := prog_11_method_4_code
def yX9_bitsOf : MethodName := ⟨RX9, "bitsOf", "(I)I"⟩
abbrev cX9_init : ByteArray := prog_11_method_5_code
def yX9_init : MethodName := ⟨RX9, "<init>", "()V"⟩
abbrev cX9_spell : ByteArray := prog_11_method_6_code
def yX9_spell : MethodName := ⟨RX9, "spell", "(IIIIIIIII)V"⟩
abbrev cX9_isStory : ByteArray := prog_11_method_7_code
def yX9_isStory : MethodName := ⟨RX9, "isStory", "(I)Z"⟩
abbrev cX9_isPerson : ByteArray := prog_11_method_8_code
def yX9_isPerson : MethodName := ⟨RX9, "isPerson", "(I)Z"⟩
abbrev cX9_isHouse : ByteArray := prog_11_method_9_code
def yX9_isHouse : MethodName := ⟨RX9, "isHouse", "(I)Z"⟩
abbrev cX9_story : ByteArray := prog_11_method_10_code
def yX9_story : MethodName := ⟨RX9, "story", "(III)I"⟩
abbrev cX9_parts : ByteArray := prog_11_method_11_code
def yX9_parts : MethodName := ⟨RX9, "parts", "(I)V"⟩
abbrev cX9_twin : ByteArray := prog_11_method_12_code
def yX9_twin : MethodName := ⟨RX9, "twin", "(II)I"⟩
abbrev cX9_person : ByteArray := prog_11_method_13_code
def yX9_person : MethodName := ⟨RX9, "person", "(II)I"⟩
abbrev cX9_set : ByteArray := prog_11_method_14_code
def yX9_set : MethodName := ⟨RX9, "set", "(III)I"⟩
abbrev cX9_hears : ByteArray := prog_11_method_15_code
def yX9_hears : MethodName := ⟨RX9, "hears", "(III)I"⟩
abbrev cX9_counts : ByteArray := prog_11_method_16_code
def yX9_counts : MethodName := ⟨RX9, "counts", "(II)I"⟩
abbrev cX9_stays : ByteArray := prog_11_method_17_code
def yX9_stays : MethodName := ⟨RX9, "stays", "(I)I"⟩
abbrev cX9_told : ByteArray := prog_11_method_18_code
def yX9_told : MethodName := ⟨RX9, "told", "(III)I"⟩
abbrev cX9_known : ByteArray := prog_11_method_19_code
def yX9_known : MethodName := ⟨RX9, "known", "(I)I"⟩
abbrev cX9_one : ByteArray := prog_11_method_20_code
def yX9_one : MethodName := ⟨RX9, "one", "(II)I"⟩
abbrev cX9_feed : ByteArray := prog_11_method_21_code
def yX9_feed : MethodName := ⟨RX9, "feed", "(I)I"⟩
abbrev cX9_byteAt : ByteArray := prog_11_method_22_code
def yX9_byteAt : MethodName := ⟨RX9, "byteAt", "(I)I"⟩
abbrev cX9_next : ByteArray := prog_11_method_23_code
def yX9_next : MethodName := ⟨RX9, "next", "()V"⟩
abbrev cX9_fail : ByteArray := prog_11_method_24_code
def yX9_fail : MethodName := ⟨RX9, "fail", "()V"⟩
abbrev cX9_isLetter : ByteArray := prog_11_method_25_code
def yX9_isLetter : MethodName := ⟨RX9, "isLetter", "(II)Z"⟩
abbrev cX9_isWord : ByteArray := prog_11_method_26_code
def yX9_isWord : MethodName := ⟨RX9, "isWord", "(IIIIIIII)Z"⟩
abbrev cX9_isSign : ByteArray := prog_11_method_27_code
def yX9_isSign : MethodName := ⟨RX9, "isSign", "(I)Z"⟩
abbrev cX9_opens : ByteArray := prog_11_method_28_code
def yX9_opens : MethodName := ⟨RX9, "opens", "()Z"⟩
abbrev cX9_name : ByteArray := prog_11_method_29_code
def yX9_name : MethodName := ⟨RX9, "name", "()I"⟩
abbrev cX9_atom : ByteArray := prog_11_method_30_code
def yX9_atom : MethodName := ⟨RX9, "atom", "()I"⟩
abbrev cX9_term : ByteArray := prog_11_method_31_code
def yX9_term : MethodName := ⟨RX9, "term", "()I"⟩
abbrev cX9_added : ByteArray := prog_11_method_32_code
def yX9_added : MethodName := ⟨RX9, "added", "()I"⟩
abbrev cX9_not : ByteArray := prog_11_method_33_code
def yX9_not : MethodName := ⟨RX9, "not", "()I"⟩
abbrev cX9_both : ByteArray := prog_11_method_34_code
def yX9_both : MethodName := ⟨RX9, "both", "()I"⟩
abbrev cX9_either : ByteArray := prog_11_method_35_code
def yX9_either : MethodName := ⟨RX9, "either", "()I"⟩
abbrev cX9_part : ByteArray := prog_11_method_36_code
def yX9_part : MethodName := ⟨RX9, "part", "(Z)I"⟩
abbrev cX9_read : ByteArray := prog_11_method_37_code
def yX9_read : MethodName := ⟨RX9, "read", "(II)I"⟩
abbrev cX9_text : ByteArray := prog_11_method_38_code
def yX9_text : MethodName := ⟨RX9, "text", "()I"⟩
abbrev cX9_force : ByteArray := prog_11_method_39_code
def yX9_force : MethodName := ⟨RX9, "force", "(I)I"⟩
abbrev cX9_says : ByteArray := prog_11_method_40_code
def yX9_says : MethodName := ⟨RX9, "says", "(IIII)I"⟩
abbrev cX9_sitting : ByteArray := prog_11_method_41_code
def yX9_sitting : MethodName := ⟨RX9, "sitting", "(I)I"⟩
abbrev cX9_knowers : ByteArray := prog_11_method_42_code
def yX9_knowers : MethodName := ⟨RX9, "knowers", "(I)I"⟩
abbrev cX9_mayTell : ByteArray := prog_11_method_43_code
def yX9_mayTell : MethodName := ⟨RX9, "mayTell", "(III)Z"⟩
abbrev cX9_teller : ByteArray := prog_11_method_44_code
def yX9_teller : MethodName := ⟨RX9, "teller", "(II)I"⟩
abbrev cX9_allMay : ByteArray := prog_11_method_45_code
def yX9_allMay : MethodName := ⟨RX9, "allMay", "(I)I"⟩
abbrev cX9_may : ByteArray := prog_11_method_46_code
def yX9_may : MethodName := ⟨RX9, "may", "(I)I"⟩
abbrev cX9_by : ByteArray := prog_11_method_47_code
def yX9_by : MethodName := ⟨RX9, "by", "(II)I"⟩
abbrev cX9_worthBy : ByteArray := prog_11_method_48_code
def yX9_worthBy : MethodName := ⟨RX9, "worthBy", "(III)I"⟩
abbrev cX9_worth : ByteArray := prog_11_method_49_code
def yX9_worth : MethodName := ⟨RX9, "worth", "(II)J"⟩
abbrev cX9_best : ByteArray := prog_11_method_50_code
def yX9_best : MethodName := ⟨RX9, "best", "(I)I"⟩
abbrev cX9_most : ByteArray := prog_11_method_51_code
def yX9_most : MethodName := ⟨RX9, "most", "(II)J"⟩
abbrev cX9_tellIn : ByteArray := prog_11_method_52_code
def yX9_tellIn : MethodName := ⟨RX9, "tellIn", "(III)I"⟩
abbrev cX9_tell : ByteArray := prog_11_method_53_code
def yX9_tell : MethodName := ⟨RX9, "tell", "(II)I"⟩
abbrev cX9_pass : ByteArray := prog_11_method_54_code
def yX9_pass : MethodName := ⟨RX9, "pass", "()I"⟩
abbrev cX9_laysAside : ByteArray := prog_11_method_55_code
def yX9_laysAside : MethodName := ⟨RX9, "laysAside", "()V"⟩
abbrev cX9_laysBack : ByteArray := prog_11_method_56_code
def yX9_laysBack : MethodName := ⟨RX9, "laysBack", "()V"⟩
abbrev cX9_canAll : ByteArray := prog_11_method_57_code
def yX9_canAll : MethodName := ⟨RX9, "canAll", "(II)Z"⟩
abbrev cX9_goesOn : ByteArray := prog_11_method_58_code
def yX9_goesOn : MethodName := ⟨RX9, "goesOn", "(II)I"⟩
abbrev cX9_isTired : ByteArray := prog_11_method_59_code
def yX9_isTired : MethodName := ⟨RX9, "isTired", "(III)Z"⟩
abbrev cX9_anyMay : ByteArray := prog_11_method_60_code
def yX9_anyMay : MethodName := ⟨RX9, "anyMay", "(I)Z"⟩
abbrev cX9_digit : ByteArray := prog_11_method_61_code
def yX9_digit : MethodName := ⟨RX9, "digit", "(III)I"⟩
abbrev cX9_housesWith : ByteArray := prog_11_method_62_code
def yX9_housesWith : MethodName := ⟨RX9, "housesWith", "(II)I"⟩
abbrev cX9_spread : ByteArray := prog_11_method_63_code
def yX9_spread : MethodName := ⟨RX9, "spread", "(II)I"⟩
abbrev cX9_keepAway : ByteArray := prog_11_method_64_code
def yX9_keepAway : MethodName := ⟨RX9, "keepAway", "(I)I"⟩
abbrev cX9_send : ByteArray := prog_11_method_65_code
def yX9_send : MethodName := ⟨RX9, "send", "(II)I"⟩
abbrev cX9_stranger : ByteArray := prog_11_method_66_code
def yX9_stranger : MethodName := ⟨RX9, "stranger", "(III)I"⟩
abbrev cX9_left : ByteArray := prog_11_method_67_code
def yX9_left : MethodName := ⟨RX9, "left", "()I"⟩
abbrev cX9_judge : ByteArray := prog_11_method_68_code
def yX9_judge : MethodName := ⟨RX9, "judge", "(I)I"⟩
abbrev cX9_drawn : ByteArray := prog_11_method_69_code
def yX9_drawn : MethodName := ⟨RX9, "drawn", "(II)I"⟩
abbrev cX9_image : ByteArray := prog_11_method_70_code
def yX9_image : MethodName := ⟨RX9, "image", "()I"⟩
abbrev cX9_back : ByteArray := prog_11_method_71_code
def yX9_back : MethodName := ⟨RX9, "back", "()I"⟩
abbrev cX9_count : ByteArray := prog_11_method_72_code
def yX9_count : MethodName := ⟨RX9, "count", "(I)I"⟩
abbrev cX9_isSheet : ByteArray := prog_11_method_73_code
def yX9_isSheet : MethodName := ⟨RX9, "isSheet", "(I)Z"⟩
abbrev cX9_sheet : ByteArray := prog_11_method_74_code
def yX9_sheet : MethodName := ⟨RX9, "sheet", "(III)I"⟩
abbrev cX9_cell : ByteArray := prog_11_method_75_code
def yX9_cell : MethodName := ⟨RX9, "cell", "(III)I"⟩
abbrev cX9_copy : ByteArray := prog_11_method_76_code
def yX9_copy : MethodName := ⟨RX9, "copy", "(IIIII)I"⟩
abbrev cX9_people : ByteArray := prog_11_method_77_code
def yX9_people : MethodName := ⟨RX9, "people", "(IIII)I"⟩
abbrev cX9_over : ByteArray := prog_11_method_78_code
def yX9_over : MethodName := ⟨RX9, "over", "(I)I"⟩
abbrev cX9_taken : ByteArray := prog_11_method_79_code
def yX9_taken : MethodName := ⟨RX9, "taken", "(II)I"⟩
def RJ11 : String := "java/lang/Character"
def TJ11 : u_T := fun k => match k with
  | _ => ("", "", "", false)
def tyJ11 : Nat → FieldType := fun k => match k with
  | _ => .int
abbrev wsJ110 : List Cond := u_ws RJ11 TJ11 0
theorem nmJ11 : ∀ a, a < 0 → ∀ b, b < 0 → a ≠ b → (TJ11 a).2.1 ≠ (TJ11 b).2.1 := by decide +kernel
theorem tyJ11_ok : ∀ k, k < 0 → parseFieldDescriptor (TJ11 k).2.2.1 = some (tyJ11 k) := by decide +kernel
abbrev cJ11_isValidCodePoint_9a6ad : ByteArray := prog_12_method_11_code
def yJ11_isValidCodePoint_9a6ad : MethodName := ⟨RJ11, "isValidCodePoint", "(I)Z"⟩
abbrev cJ11_highSurrogate_5068e : ByteArray := prog_12_method_28_code
def yJ11_highSurrogate_5068e : MethodName := ⟨RJ11, "highSurrogate", "(I)C"⟩
abbrev cJ11_lowSurrogate_5068e : ByteArray := prog_12_method_29_code
def yJ11_lowSurrogate_5068e : MethodName := ⟨RJ11, "lowSurrogate", "(I)C"⟩
def RJ6 : String := "java/lang/Integer"
def TJ6 : u_T := fun k => match k with
  | _ => ("", "", "", false)
def tyJ6 : Nat → FieldType := fun k => match k with
  | _ => .int
abbrev wsJ60 : List Cond := u_ws RJ6 TJ6 0
theorem nmJ6 : ∀ a, a < 0 → ∀ b, b < 0 → a ≠ b → (TJ6 a).2.1 ≠ (TJ6 b).2.1 := by decide +kernel
theorem tyJ6_ok : ∀ k, k < 0 → parseFieldDescriptor (TJ6 k).2.2.1 = some (tyJ6 k) := by decide +kernel
abbrev cJ6_bitCount_0f7a4 : ByteArray := prog_13_method_49_code
def yJ6_bitCount_0f7a4 : MethodName := ⟨RJ6, "bitCount", "(I)I"⟩
def RJ9 : String := "java/lang/Math"
def TJ9 : u_T := fun k => match k with
  | _ => ("", "", "", false)
def tyJ9 : Nat → FieldType := fun k => match k with
  | _ => .int
abbrev wsJ90 : List Cond := u_ws RJ9 TJ9 0
theorem nmJ9 : ∀ a, a < 0 → ∀ b, b < 0 → a ≠ b → (TJ9 a).2.1 ≠ (TJ9 b).2.1 := by decide +kernel
theorem tyJ9_ok : ∀ k, k < 0 → parseFieldDescriptor (TJ9 k).2.2.1 = some (tyJ9 k) := by decide +kernel
abbrev cJ9_max_7cf53 : ByteArray := prog_14_method_65_code
def yJ9_max_7cf53 : MethodName := ⟨RJ9, "max", "(II)I"⟩
abbrev cJ9_min_7cf53 : ByteArray := prog_14_method_69_code
def yJ9_min_7cf53 : MethodName := ⟨RJ9, "min", "(II)I"⟩
def RJ0 : String := "java/lang/String"
def TJ0 : u_T := fun k => match k with
  | _ => ("", "", "", false)
def tyJ0 : Nat → FieldType := fun k => match k with
  | _ => .int
abbrev wsJ00 : List Cond := u_ws RJ0 TJ0 0
theorem nmJ0 : ∀ a, a < 0 → ∀ b, b < 0 → a ≠ b → (TJ0 a).2.1 ≠ (TJ0 b).2.1 := by decide +kernel
theorem tyJ0_ok : ∀ k, k < 0 → parseFieldDescriptor (TJ0 k).2.2.1 = some (tyJ0 k) := by decide +kernel
abbrev cJ0_length_8abf5 : ByteArray := prog_15_method_54_code
def yJ0_length_8abf5 : MethodName := ⟨RJ0, "length", "()I"⟩
abbrev cJ0_charAt_5068e : ByteArray := prog_15_method_56_code
def yJ0_charAt_5068e : MethodName := ⟨RJ0, "charAt", "(I)C"⟩
abbrev cJ0_indexOf_0f7a4 : ByteArray := prog_15_method_79_code
def yJ0_indexOf_0f7a4 : MethodName := ⟨RJ0, "indexOf", "(I)I"⟩
abbrev cJ0_indexOf_7cf53 : ByteArray := prog_15_method_80_code
def yJ0_indexOf_7cf53 : MethodName := ⟨RJ0, "indexOf", "(II)I"⟩
abbrev cJ0_coder_7d493 : ByteArray := prog_15_method_152_code
def yJ0_coder_7d493 : MethodName := ⟨RJ0, "coder", "()B"⟩
abbrev cJ0_isLatin1_aae02 : ByteArray := prog_15_method_154_code
def yJ0_isLatin1_aae02 : MethodName := ⟨RJ0, "isLatin1", "()Z"⟩
abbrev cJ0_checkIndex_df160 : ByteArray := prog_15_method_155_code
def yJ0_checkIndex_df160 : MethodName := ⟨RJ0, "checkIndex", "(II)V"⟩
abbrev cJ0_checkBoundsBeginEnd_23922 : ByteArray := prog_15_method_158_code
def yJ0_checkBoundsBeginEnd_23922 : MethodName := ⟨RJ0, "checkBoundsBeginEnd", "(III)V"⟩
def RJ1 : String := "java/lang/StringLatin1"
def TJ1 : u_T := fun k => match k with
  | _ => ("", "", "", false)
def tyJ1 : Nat → FieldType := fun k => match k with
  | _ => .int
abbrev wsJ10 : List Cond := u_ws RJ1 TJ1 0
theorem nmJ1 : ∀ a, a < 0 → ∀ b, b < 0 → a ≠ b → (TJ1 a).2.1 ≠ (TJ1 b).2.1 := by decide +kernel
theorem tyJ1_ok : ∀ k, k < 0 → parseFieldDescriptor (TJ1 k).2.2.1 = some (tyJ1 k) := by decide +kernel
abbrev cJ1_charAt_3b067 : ByteArray := prog_16_method_2_code
def yJ1_charAt_3b067 : MethodName := ⟨RJ1, "charAt", "([BI)C"⟩
abbrev cJ1_canEncode_9a6ad : ByteArray := prog_16_method_4_code
def yJ1_canEncode_9a6ad : MethodName := ⟨RJ1, "canEncode", "(I)Z"⟩
abbrev cJ1_indexOf_4cfef : ByteArray := prog_16_method_22_code
def yJ1_indexOf_4cfef : MethodName := ⟨RJ1, "indexOf", "([BIII)I"⟩
abbrev cJ1_indexOfChar_4cfef : ByteArray := prog_16_method_23_code
def yJ1_indexOfChar_4cfef : MethodName := ⟨RJ1, "indexOfChar", "([BIII)I"⟩
def RJ2 : String := "java/lang/StringUTF16"
def TJ2 : u_T := fun k => match k with
  | _ => ("", "", "", false)
def tyJ2 : Nat → FieldType := fun k => match k with
  | _ => .int
abbrev wsJ20 : List Cond := u_ws RJ2 TJ2 0
theorem nmJ2 : ∀ a, a < 0 → ∀ b, b < 0 → a ≠ b → (TJ2 a).2.1 ≠ (TJ2 b).2.1 := by decide +kernel
theorem tyJ2_ok : ∀ k, k < 0 → parseFieldDescriptor (TJ2 k).2.2.1 = some (tyJ2 k) := by decide +kernel
abbrev cJ2_getChar_3b067 : ByteArray := prog_17_method_5_code
def yJ2_getChar_3b067 : MethodName := ⟨RJ2, "getChar", "([BI)C"⟩
abbrev cJ2_length_9d52b : ByteArray := prog_17_method_6_code
def yJ2_length_9d52b : MethodName := ⟨RJ2, "length", "([B)I"⟩
abbrev cJ2_indexOf_4cfef : ByteArray := prog_17_method_40_code
def yJ2_indexOf_4cfef : MethodName := ⟨RJ2, "indexOf", "([BIII)I"⟩
abbrev cJ2_indexOfChar_4cfef : ByteArray := prog_17_method_47_code
def yJ2_indexOfChar_4cfef : MethodName := ⟨RJ2, "indexOfChar", "([BIII)I"⟩
abbrev cJ2_indexOfCharUnsafe_4cfef : ByteArray := prog_17_method_48_code
def yJ2_indexOfCharUnsafe_4cfef : MethodName := ⟨RJ2, "indexOfCharUnsafe", "([BIII)I"⟩
abbrev cJ2_indexOfSupplementary_4cfef : ByteArray := prog_17_method_49_code
def yJ2_indexOfSupplementary_4cfef : MethodName := ⟨RJ2, "indexOfSupplementary", "([BIII)I"⟩
abbrev cJ2_charAt_3b067 : ByteArray := prog_17_method_83_code
def yJ2_charAt_3b067 : MethodName := ⟨RJ2, "charAt", "([BI)C"⟩
abbrev cJ2_checkIndex_2214a : ByteArray := prog_17_method_91_code
def yJ2_checkIndex_2214a : MethodName := ⟨RJ2, "checkIndex", "(I[B)V"⟩
abbrev cJ2_checkBoundsBeginEnd_d044e : ByteArray := prog_17_method_93_code
def yJ2_checkBoundsBeginEnd_d044e : MethodName := ⟨RJ2, "checkBoundsBeginEnd", "(II[B)V"⟩
def RJ10 : String := "java/lang/System"
def TJ10 : u_T := fun k => match k with
  | _ => ("", "", "", false)
def tyJ10 : Nat → FieldType := fun k => match k with
  | _ => .int
abbrev wsJ100 : List Cond := u_ws RJ10 TJ10 0
theorem nmJ10 : ∀ a, a < 0 → ∀ b, b < 0 → a ≠ b → (TJ10 a).2.1 ≠ (TJ10 b).2.1 := by decide +kernel
theorem tyJ10_ok : ∀ k, k < 0 → parseFieldDescriptor (TJ10 k).2.2.1 = some (tyJ10 k) := by decide +kernel
def RJ3 : String := "jdk/internal/util/Preconditions"
def TJ3 : u_T := fun k => match k with
  | _ => ("", "", "", false)
def tyJ3 : Nat → FieldType := fun k => match k with
  | _ => .int
abbrev wsJ30 : List Cond := u_ws RJ3 TJ3 0
theorem nmJ3 : ∀ a, a < 0 → ∀ b, b < 0 → a ≠ b → (TJ3 a).2.1 ≠ (TJ3 b).2.1 := by decide +kernel
theorem tyJ3_ok : ∀ k, k < 0 → parseFieldDescriptor (TJ3 k).2.2.1 = some (tyJ3 k) := by decide +kernel
abbrev cJ3_checkIndex_8e157 : ByteArray := prog_19_method_11_code
def yJ3_checkIndex_8e157 : MethodName := ⟨RJ3, "checkIndex", "(IILjava/util/function/BiFunction;)I"⟩
abbrev cJ3_checkFromToIndex_8c36e : ByteArray := prog_19_method_12_code
def yJ3_checkFromToIndex_8c36e : MethodName := ⟨RJ3, "checkFromToIndex", "(IIILjava/util/function/BiFunction;)I"⟩
def RL : String := "NotTwiceLaw"
abbrev cL_law : ByteArray := code
def yL_law : MethodName := ⟨RL, "law", "([I)Z"⟩
abbrev vwCl : List vw_C := [(RX0, TX0, 14), (RX1, TX1, 9), (RX2, TX2, 3), (RX3, TX3, 9), (RX4, TX4, 3), (RX5, TX5, 5), (RX7, TX7, 4), (RX8, TX8, 9), (RX9, TX9, 51)]
end
section
/-- the tables' words that a call hands on -/
def nt_tbl : List Cond := lw_tbl.filter goodWord
theorem nt_good (w : Cond) (h : w ∈ nt_tbl) : goodWord w = true := (List.mem_filter.mp h).2
theorem nt_tbl_in (w : Cond) (h : w ∈ nt_tbl) : w ∈ lw_tbl := (List.mem_filter.mp h).1
theorem nt_t0 {w : Cond} (i : Nat) (h : (k2_sels lw_privs)[i]? = some w) (hg : goodWord w = true) : w ∈ nt_tbl := List.mem_filter.mpr ⟨List.mem_append_left _ (List.mem_of_getElem? h), hg⟩
theorem nt_t1 {w : Cond} (i : Nat) (h : tables_1_1[i]? = some w) (hg : goodWord w = true) : w ∈ nt_tbl := List.mem_filter.mpr ⟨List.mem_append_right _ (List.mem_append_left _ (List.mem_of_getElem? h)), hg⟩
theorem nt_t2 {w : Cond} (i : Nat) (h : tables_1_2[i]? = some w) (hg : goodWord w = true) : w ∈ nt_tbl := List.mem_filter.mpr ⟨List.mem_append_right _ (List.mem_append_right _ (List.mem_append_left _ (List.mem_of_getElem? h))), hg⟩
theorem nt_t3 {w : Cond} (i : Nat) (h : tables_1_3[i]? = some w) (hg : goodWord w = true) : w ∈ nt_tbl := List.mem_filter.mpr ⟨List.mem_append_right _ (List.mem_append_right _ (List.mem_append_right _ (List.mem_append_left _ (List.mem_of_getElem? h)))), hg⟩
theorem nt_t4 {w : Cond} (i : Nat) (h : tables_1_4[i]? = some w) (hg : goodWord w = true) : w ∈ nt_tbl := List.mem_filter.mpr ⟨List.mem_append_right _ (List.mem_append_right _ (List.mem_append_right _ (List.mem_append_right _ (List.mem_append_left _ (List.mem_of_getElem? h))))), hg⟩
theorem nt_t5 {w : Cond} (i : Nat) (h : tables_1_5[i]? = some w) (hg : goodWord w = true) : w ∈ nt_tbl := List.mem_filter.mpr ⟨List.mem_append_right _ (List.mem_append_right _ (List.mem_append_right _ (List.mem_append_right _ (List.mem_append_right _ (List.mem_append_left _ (List.mem_of_getElem? h)))))), hg⟩
theorem nt_t6 {w : Cond} (i : Nat) (h : tables_1_6[i]? = some w) (hg : goodWord w = true) : w ∈ nt_tbl := List.mem_filter.mpr ⟨List.mem_append_right _ (List.mem_append_right _ (List.mem_append_right _ (List.mem_append_right _ (List.mem_append_right _ (List.mem_append_right _ (List.mem_of_getElem? h)))))), hg⟩
theorem wd_0 : Cond.initialized RL ∈ nt_tbl := nt_t1 0 rfl rfl
theorem wd_1 : Cond.initialized RX8 ∈ nt_tbl := nt_t1 1 rfl rfl
theorem wd_2 : Cond.initialized RX5 ∈ nt_tbl := nt_t1 2 rfl rfl
theorem wd_3 : Cond.initialized RX7 ∈ nt_tbl := nt_t1 3 rfl rfl
theorem wd_4 : Cond.initialized RX1 ∈ nt_tbl := nt_t1 4 rfl rfl
theorem wd_5 : Cond.initialized RJ0 ∈ nt_tbl := nt_t1 5 rfl rfl
theorem wd_6 : Cond.initialized RJ1 ∈ nt_tbl := nt_t1 6 rfl rfl
theorem wd_7 : Cond.initialized RJ3 ∈ nt_tbl := nt_t1 7 rfl rfl
theorem wd_8 : Cond.initialized RJ2 ∈ nt_tbl := nt_t1 8 rfl rfl
theorem wd_9 : Cond.initialized RJ9 ∈ nt_tbl := nt_t1 9 rfl rfl
theorem wd_10 : Cond.initialized RJ11 ∈ nt_tbl := nt_t1 10 rfl rfl
theorem wd_11 : Cond.initialized RX2 ∈ nt_tbl := nt_t1 11 rfl rfl
theorem wd_12 : Cond.initialized RJ10 ∈ nt_tbl := nt_t1 12 rfl rfl
theorem wd_13 : Cond.initialized RX0 ∈ nt_tbl := nt_t1 13 rfl rfl
theorem wd_14 : Cond.initialized RX3 ∈ nt_tbl := nt_t1 14 rfl rfl
theorem wd_15 : Cond.initialized RX4 ∈ nt_tbl := nt_t1 15 rfl rfl
theorem wd_16 : Cond.initialized RX9 ∈ nt_tbl := nt_t1 16 rfl rfl
theorem wd_17 : Cond.initialized RJ6 ∈ nt_tbl := nt_t1 17 rfl rfl
theorem wd_18 : Cond.classLink RL 7 "NotTwice" ∈ nt_tbl := nt_t1 18 rfl rfl
theorem wd_19 : Cond.instantiable RX8 9 ∈ nt_tbl := nt_t1 19 rfl rfl
theorem wd_20 : Cond.methodLink RL 9 yX8_init ∈ nt_tbl := nt_t1 20 rfl rfl
theorem wd_21 : Cond.instanceMethod yX8_init ∈ nt_tbl := nt_t1 21 rfl rfl
theorem wd_22 : Cond.code yX8_init prog_1_method_1_code 1 (Option.none : Option Jvm.ClassFile.FieldType) ∈ nt_tbl := nt_t1 22 rfl rfl
theorem wd_23 : Cond.methodLink RX8 3 objectInit ∈ nt_tbl := nt_t1 23 rfl rfl
theorem wd_24 : Cond.instanceMethod objectInit ∈ nt_tbl := nt_t1 24 rfl rfl
theorem wd_25 : Cond.code objectInit object_method_1_code 1 (Option.none : Option Jvm.ClassFile.FieldType) ∈ nt_tbl := nt_t1 25 rfl rfl
theorem wd_26 : Cond.classLink RX8 9 "NotTwice$Shelf" ∈ nt_tbl := nt_t1 26 rfl rfl
theorem wd_27 : Cond.instantiable RX5 5 ∈ nt_tbl := nt_t1 27 rfl rfl
theorem wd_28 : Cond.instanceMethod yX5_init ∈ nt_tbl := nt_t1 29 rfl rfl
theorem wd_29 : Cond.code yX5_init prog_7_method_1_code 1 (Option.none : Option Jvm.ClassFile.FieldType) ∈ nt_tbl := nt_t1 30 rfl rfl
theorem wd_30 : Cond.methodLink RX5 3 objectInit ∈ nt_tbl := nt_t1 31 rfl rfl
theorem wd_31 : Cond.fieldLink RX5 9 "NotTwice$Shelf" "kind" "[I" ∈ nt_tbl := nt_t1 32 rfl rfl
theorem wd_32 : Cond.fieldLink RX5 15 "NotTwice$Shelf" "worth" "[I" ∈ nt_tbl := nt_t1 34 rfl rfl
theorem wd_33 : Cond.fieldLink RX5 18 "NotTwice$Shelf" "number" "[I" ∈ nt_tbl := nt_t1 36 rfl rfl
theorem wd_34 : Cond.fieldLink RX5 21 "NotTwice$Shelf" "twin" "[I" ∈ nt_tbl := nt_t1 38 rfl rfl
theorem wd_35 : Cond.fieldLink RX5 24 "NotTwice$Shelf" "size" "I" ∈ nt_tbl := nt_t1 40 rfl rfl
theorem wd_36 : Cond.laysFinal "NotTwice$Shelf" "NotTwice$Shelf" "kind" "[I" ∈ nt_tbl := nt_t1 44 rfl rfl
theorem wd_37 : Cond.laysFinal "NotTwice$Shelf" "NotTwice$Shelf" "worth" "[I" ∈ nt_tbl := nt_t1 46 rfl rfl
theorem wd_38 : Cond.laysFinal "NotTwice$Shelf" "NotTwice$Shelf" "number" "[I" ∈ nt_tbl := nt_t1 48 rfl rfl
theorem wd_39 : Cond.laysFinal "NotTwice$Shelf" "NotTwice$Shelf" "twin" "[I" ∈ nt_tbl := nt_t1 50 rfl rfl
theorem wd_40 : Cond.lays "NotTwice$Shelf" "NotTwice$Shelf" "size" "I" ∈ nt_tbl := nt_t1 52 rfl rfl
theorem wd_41 : Cond.arrayClass Jvm.ClassFile.FieldType.int ∈ nt_tbl := nt_t1 55 rfl rfl
theorem wd_42 : Cond.classLink RX8 16 "NotTwice$Texts" ∈ nt_tbl := nt_t1 56 rfl rfl
theorem wd_43 : Cond.instantiable RX7 4 ∈ nt_tbl := nt_t1 57 rfl rfl
theorem wd_44 : Cond.instanceMethod yX7_init ∈ nt_tbl := nt_t1 59 rfl rfl
theorem wd_45 : Cond.code yX7_init prog_9_method_1_code 1 (Option.none : Option Jvm.ClassFile.FieldType) ∈ nt_tbl := nt_t1 60 rfl rfl
theorem wd_46 : Cond.methodLink RX7 3 objectInit ∈ nt_tbl := nt_t1 61 rfl rfl
theorem wd_47 : Cond.classLink RX7 9 "NotTwice$Rule" ∈ nt_tbl := nt_t1 62 rfl rfl
theorem wd_48 : Cond.fieldLink RX7 11 "NotTwice$Texts" "rules" "[LNotTwice$Rule;" ∈ nt_tbl := nt_t1 64 rfl rfl
theorem wd_49 : Cond.fieldLink RX7 19 "NotTwice$Texts" "names" "[I" ∈ nt_tbl := nt_t1 65 rfl rfl
theorem wd_50 : Cond.fieldLink RX7 23 "NotTwice$Texts" "stack" "[I" ∈ nt_tbl := nt_t1 67 rfl rfl
theorem wd_51 : Cond.fieldLink RX7 26 "NotTwice$Texts" "size" "I" ∈ nt_tbl := nt_t1 69 rfl rfl
theorem wd_52 : Cond.laysFinal "NotTwice$Texts" "NotTwice$Texts" "rules" "[LNotTwice$Rule;" ∈ nt_tbl := nt_t1 71 rfl rfl
theorem wd_53 : Cond.laysFinal "NotTwice$Texts" "NotTwice$Texts" "names" "[I" ∈ nt_tbl := nt_t1 73 rfl rfl
theorem wd_54 : Cond.laysFinal "NotTwice$Texts" "NotTwice$Texts" "stack" "[I" ∈ nt_tbl := nt_t1 75 rfl rfl
theorem wd_55 : Cond.lays "NotTwice$Texts" "NotTwice$Texts" "size" "I" ∈ nt_tbl := nt_t1 77 rfl rfl
theorem wd_56 : Cond.classLink RX8 23 "NotTwice$Reader" ∈ nt_tbl := nt_t1 80 rfl rfl
theorem wd_57 : Cond.instantiable RX1 9 ∈ nt_tbl := nt_t1 81 rfl rfl
theorem wd_58 : Cond.instanceMethod yX1_init ∈ nt_tbl := nt_t1 83 rfl rfl
theorem wd_59 : Cond.code yX1_init prog_3_method_1_code 1 (Option.none : Option Jvm.ClassFile.FieldType) ∈ nt_tbl := nt_t1 84 rfl rfl
theorem wd_60 : Cond.methodLink RX1 3 objectInit ∈ nt_tbl := nt_t1 85 rfl rfl
theorem wd_61 : Cond.fieldLink RX1 9 "NotTwice$Reader" "tape" "[I" ∈ nt_tbl := nt_t1 86 rfl rfl
theorem wd_62 : Cond.fieldLink RX1 21 "NotTwice$Reader" "size" "I" ∈ nt_tbl := nt_t1 87 rfl rfl
theorem wd_63 : Cond.fieldLink RX1 52 "NotTwice$Reader" "at" "I" ∈ nt_tbl := nt_t1 89 rfl rfl
theorem wd_64 : Cond.fieldLink RX1 70 "NotTwice$Reader" "token" "I" ∈ nt_tbl := nt_t1 90 rfl rfl
theorem wd_65 : Cond.fieldLink RX1 41 "NotTwice$Reader" "tokenAt" "I" ∈ nt_tbl := nt_t1 91 rfl rfl
theorem wd_66 : Cond.fieldLink RX1 55 "NotTwice$Reader" "open" "I" ∈ nt_tbl := nt_t1 92 rfl rfl
theorem wd_67 : Cond.fieldLink RX1 15 "NotTwice$Reader" "code" "[I" ∈ nt_tbl := nt_t1 93 rfl rfl
theorem wd_68 : Cond.fieldLink RX1 46 "NotTwice$Reader" "codeSize" "I" ∈ nt_tbl := nt_t1 94 rfl rfl
theorem wd_69 : Cond.fieldLink RX1 18 "NotTwice$Reader" "partAt" "[I" ∈ nt_tbl := nt_t1 95 rfl rfl
theorem wd_70 : Cond.laysFinal "NotTwice$Reader" "NotTwice$Reader" "tape" "[I" ∈ nt_tbl := nt_t1 96 rfl rfl
theorem wd_71 : Cond.lays "NotTwice$Reader" "NotTwice$Reader" "size" "I" ∈ nt_tbl := nt_t1 98 rfl rfl
theorem wd_72 : Cond.lays "NotTwice$Reader" "NotTwice$Reader" "at" "I" ∈ nt_tbl := nt_t1 100 rfl rfl
theorem wd_73 : Cond.lays "NotTwice$Reader" "NotTwice$Reader" "token" "I" ∈ nt_tbl := nt_t1 102 rfl rfl
theorem wd_74 : Cond.lays "NotTwice$Reader" "NotTwice$Reader" "tokenAt" "I" ∈ nt_tbl := nt_t1 104 rfl rfl
theorem wd_75 : Cond.lays "NotTwice$Reader" "NotTwice$Reader" "open" "I" ∈ nt_tbl := nt_t1 106 rfl rfl
theorem wd_76 : Cond.laysFinal "NotTwice$Reader" "NotTwice$Reader" "code" "[I" ∈ nt_tbl := nt_t1 108 rfl rfl
theorem wd_77 : Cond.lays "NotTwice$Reader" "NotTwice$Reader" "codeSize" "I" ∈ nt_tbl := nt_t1 110 rfl rfl
theorem wd_78 : Cond.laysFinal "NotTwice$Reader" "NotTwice$Reader" "partAt" "[I" ∈ nt_tbl := nt_t1 112 rfl rfl
theorem wd_79 : Cond.instanceMethod yX1_putFirstText ∈ nt_tbl := nt_t1 117 rfl rfl
theorem wd_80 : Cond.code yX1_putFirstText prog_3_method_3_code 2 (Option.none : Option Jvm.ClassFile.FieldType) ∈ nt_tbl := nt_t1 118 rfl rfl
theorem wd_81 : Cond.methodLink RX1 27 yJ0_length_8abf5 ∈ nt_tbl := nt_t1 120 rfl rfl
theorem wd_82 : Cond.instanceMethod yJ0_length_8abf5 ∈ nt_tbl := nt_t1 121 rfl rfl
theorem wd_83 : Cond.selects RJ0 yJ0_length_8abf5 yJ0_length_8abf5 ∈ nt_tbl := nt_t1 122 rfl rfl
theorem wd_84 : Cond.code yJ0_length_8abf5 prog_15_method_54_code 1 (Option.some Jvm.ClassFile.FieldType.int) ∈ nt_tbl := nt_t1 123 rfl rfl
theorem wd_85 : Cond.methodLink RJ0 335 yJ0_coder_7d493 ∈ nt_tbl := nt_t1 124 rfl rfl
theorem wd_86 : Cond.instanceMethod yJ0_coder_7d493 ∈ nt_tbl := nt_t1 125 rfl rfl
theorem wd_87 : Cond.selects RJ0 yJ0_coder_7d493 yJ0_coder_7d493 ∈ nt_tbl := nt_t1 126 rfl rfl
theorem wd_88 : Cond.code yJ0_coder_7d493 prog_15_method_152_code 1 (Option.some Jvm.ClassFile.FieldType.byte) ∈ nt_tbl := nt_t1 127 rfl rfl
theorem wd_89 : Cond.fieldLink RJ0 38 "java/lang/String" "COMPACT_STRINGS" "Z" ∈ nt_tbl := nt_t1 128 rfl rfl
theorem wd_90 : Cond.methodLink RX1 33 yJ0_charAt_5068e ∈ nt_tbl := nt_t1 130 rfl rfl
theorem wd_91 : Cond.instanceMethod yJ0_charAt_5068e ∈ nt_tbl := nt_t1 131 rfl rfl
theorem wd_92 : Cond.selects RJ0 yJ0_charAt_5068e yJ0_charAt_5068e ∈ nt_tbl := nt_t1 132 rfl rfl
theorem wd_93 : Cond.code yJ0_charAt_5068e prog_15_method_56_code 2 (Option.some Jvm.ClassFile.FieldType.char) ∈ nt_tbl := nt_t1 133 rfl rfl
theorem wd_94 : Cond.methodLink RJ0 492 yJ0_isLatin1_aae02 ∈ nt_tbl := nt_t1 134 rfl rfl
theorem wd_95 : Cond.instanceMethod yJ0_isLatin1_aae02 ∈ nt_tbl := nt_t1 135 rfl rfl
theorem wd_96 : Cond.selects RJ0 yJ0_isLatin1_aae02 yJ0_isLatin1_aae02 ∈ nt_tbl := nt_t1 136 rfl rfl
theorem wd_97 : Cond.code yJ0_isLatin1_aae02 prog_15_method_154_code 1 (Option.some Jvm.ClassFile.FieldType.boolean) ∈ nt_tbl := nt_t1 137 rfl rfl
theorem wd_98 : Cond.methodLink RJ0 495 yJ1_charAt_3b067 ∈ nt_tbl := nt_t1 138 rfl rfl
theorem wd_99 : Cond.static yJ1_charAt_3b067 ∈ nt_tbl := nt_t1 139 rfl rfl
theorem wd_100 : Cond.code yJ1_charAt_3b067 prog_16_method_2_code 2 (Option.some Jvm.ClassFile.FieldType.char) ∈ nt_tbl := nt_t1 140 rfl rfl
theorem wd_101 : Cond.methodLink RJ1 9 yJ0_checkIndex_df160 ∈ nt_tbl := nt_t1 141 rfl rfl
theorem wd_102 : Cond.static yJ0_checkIndex_df160 ∈ nt_tbl := nt_t1 142 rfl rfl
theorem wd_103 : Cond.code yJ0_checkIndex_df160 prog_15_method_155_code 2 (Option.none : Option Jvm.ClassFile.FieldType) ∈ nt_tbl := nt_t1 143 rfl rfl
theorem wd_104 : Cond.fieldLink RJ0 1053 "jdk/internal/util/Preconditions" "SIOOBE_FORMATTER" "Ljava/util/function/BiFunction;" ∈ nt_tbl := nt_t1 144 rfl rfl
theorem wd_105 : Cond.methodLink RJ0 1059 yJ3_checkIndex_8e157 ∈ nt_tbl := nt_t1 146 rfl rfl
theorem wd_106 : Cond.static yJ3_checkIndex_8e157 ∈ nt_tbl := nt_t1 147 rfl rfl
theorem wd_107 : Cond.code yJ3_checkIndex_8e157 prog_19_method_11_code 3 (Option.some Jvm.ClassFile.FieldType.int) ∈ nt_tbl := nt_t1 148 rfl rfl
theorem wd_108 : Cond.methodLink RJ0 498 yJ2_charAt_3b067 ∈ nt_tbl := nt_t1 149 rfl rfl
theorem wd_109 : Cond.static yJ2_charAt_3b067 ∈ nt_tbl := nt_t1 150 rfl rfl
theorem wd_110 : Cond.code yJ2_charAt_3b067 prog_17_method_83_code 2 (Option.some Jvm.ClassFile.FieldType.char) ∈ nt_tbl := nt_t1 151 rfl rfl
theorem wd_111 : Cond.methodLink RJ2 67 yJ2_checkIndex_2214a ∈ nt_tbl := nt_t1 152 rfl rfl
theorem wd_112 : Cond.static yJ2_checkIndex_2214a ∈ nt_tbl := nt_t1 153 rfl rfl
theorem wd_113 : Cond.code yJ2_checkIndex_2214a prog_17_method_91_code 2 (Option.none : Option Jvm.ClassFile.FieldType) ∈ nt_tbl := nt_t1 154 rfl rfl
theorem wd_114 : Cond.methodLink RJ2 48 yJ2_length_9d52b ∈ nt_tbl := nt_t1 155 rfl rfl
theorem wd_115 : Cond.static yJ2_length_9d52b ∈ nt_tbl := nt_t1 156 rfl rfl
theorem wd_116 : Cond.code yJ2_length_9d52b prog_17_method_6_code 1 (Option.some Jvm.ClassFile.FieldType.int) ∈ nt_tbl := nt_t1 157 rfl rfl
theorem wd_117 : Cond.methodLink RJ2 414 yJ0_checkIndex_df160 ∈ nt_tbl := nt_t1 158 rfl rfl
theorem wd_118 : Cond.methodLink RJ2 71 yJ2_getChar_3b067 ∈ nt_tbl := nt_t1 159 rfl rfl
theorem wd_119 : Cond.static yJ2_getChar_3b067 ∈ nt_tbl := nt_t1 160 rfl rfl
theorem wd_120 : Cond.code yJ2_getChar_3b067 prog_17_method_5_code 2 (Option.some Jvm.ClassFile.FieldType.char) ∈ nt_tbl := nt_t1 161 rfl rfl
theorem wd_121 : Cond.fieldLink RJ2 44 "java/lang/StringUTF16" "$assertionsDisabled" "Z" ∈ nt_tbl := nt_t1 162 rfl rfl
theorem wd_122 : Cond.fieldLink RJ2 59 "java/lang/StringUTF16" "HI_BYTE_SHIFT" "I" ∈ nt_tbl := nt_t1 164 rfl rfl
theorem wd_123 : Cond.fieldLink RJ2 63 "java/lang/StringUTF16" "LO_BYTE_SHIFT" "I" ∈ nt_tbl := nt_t1 166 rfl rfl
theorem wd_124 : Cond.methodLink RX1 37 yX1_put ∈ nt_tbl := nt_t1 168 rfl rfl
theorem wd_125 : Cond.instanceMethod yX1_put ∈ nt_tbl := nt_t1 170 rfl rfl
theorem wd_126 : Cond.code yX1_put prog_3_method_2_code 2 (Option.some Jvm.ClassFile.FieldType.int) ∈ nt_tbl := nt_t1 171 rfl rfl
theorem wd_127 : Cond.instanceMethod yX1_reads ∈ nt_tbl := nt_t1 174 rfl rfl
theorem wd_128 : Cond.code yX1_reads prog_3_method_7_code 3 (Option.some Jvm.ClassFile.FieldType.boolean) ∈ nt_tbl := nt_t1 175 rfl rfl
theorem wd_129 : Cond.methodLink RX1 58 yX1_step ∈ nt_tbl := nt_t1 176 rfl rfl
theorem wd_130 : Cond.instanceMethod yX1_step ∈ nt_tbl := nt_t1 178 rfl rfl
theorem wd_131 : Cond.code yX1_step prog_3_method_14_code 2 (Option.none : Option Jvm.ClassFile.FieldType) ∈ nt_tbl := nt_t1 179 rfl rfl
theorem wd_132 : Cond.methodLink RX1 87 yX1_isLetter ∈ nt_tbl := nt_t1 180 rfl rfl
theorem wd_133 : Cond.static yX1_isLetter ∈ nt_tbl := nt_t1 181 rfl rfl
theorem wd_134 : Cond.code yX1_isLetter prog_3_method_15_code 1 (Option.some Jvm.ClassFile.FieldType.boolean) ∈ nt_tbl := nt_t1 182 rfl rfl
theorem wd_135 : Cond.methodLink RX1 90 yX1_word ∈ nt_tbl := nt_t1 183 rfl rfl
theorem wd_136 : Cond.instanceMethod yX1_word ∈ nt_tbl := nt_t1 185 rfl rfl
theorem wd_137 : Cond.code yX1_word prog_3_method_18_code 5 (Option.some Jvm.ClassFile.FieldType.int) ∈ nt_tbl := nt_t1 186 rfl rfl
theorem wd_138 : Cond.methodLink RX1 93 yX1_isDigit ∈ nt_tbl := nt_t1 188 rfl rfl
theorem wd_139 : Cond.static yX1_isDigit ∈ nt_tbl := nt_t1 189 rfl rfl
theorem wd_140 : Cond.code yX1_isDigit prog_3_method_16_code 1 (Option.some Jvm.ClassFile.FieldType.boolean) ∈ nt_tbl := nt_t1 190 rfl rfl
theorem wd_141 : Cond.methodLink RX1 96 yX1_numeral ∈ nt_tbl := nt_t1 191 rfl rfl
theorem wd_142 : Cond.instanceMethod yX1_numeral ∈ nt_tbl := nt_t1 193 rfl rfl
theorem wd_143 : Cond.code yX1_numeral prog_3_method_17_code 2 (Option.some Jvm.ClassFile.FieldType.int) ∈ nt_tbl := nt_t1 194 rfl rfl
theorem wd_144 : Cond.methodLink RX1 101 yJ0_indexOf_0f7a4 ∈ nt_tbl := nt_t1 196 rfl rfl
theorem wd_145 : Cond.instanceMethod yJ0_indexOf_0f7a4 ∈ nt_tbl := nt_t1 197 rfl rfl
theorem wd_146 : Cond.selects RJ0 yJ0_indexOf_0f7a4 yJ0_indexOf_0f7a4 ∈ nt_tbl := nt_t1 198 rfl rfl
theorem wd_147 : Cond.code yJ0_indexOf_0f7a4 prog_15_method_79_code 2 (Option.some Jvm.ClassFile.FieldType.int) ∈ nt_tbl := nt_t1 199 rfl rfl
theorem wd_148 : Cond.methodLink RJ0 633 yJ0_indexOf_7cf53 ∈ nt_tbl := nt_t1 200 rfl rfl
theorem wd_149 : Cond.instanceMethod yJ0_indexOf_7cf53 ∈ nt_tbl := nt_t1 201 rfl rfl
theorem wd_150 : Cond.selects RJ0 yJ0_indexOf_7cf53 yJ0_indexOf_7cf53 ∈ nt_tbl := nt_t1 202 rfl rfl
theorem wd_151 : Cond.code yJ0_indexOf_7cf53 prog_15_method_80_code 3 (Option.some Jvm.ClassFile.FieldType.int) ∈ nt_tbl := nt_t1 203 rfl rfl
theorem wd_152 : Cond.methodLink RJ0 505 yJ0_length_8abf5 ∈ nt_tbl := nt_t1 204 rfl rfl
theorem wd_153 : Cond.methodLink RJ0 637 yJ1_indexOf_4cfef ∈ nt_tbl := nt_t1 205 rfl rfl
theorem wd_154 : Cond.static yJ1_indexOf_4cfef ∈ nt_tbl := nt_t1 206 rfl rfl
theorem wd_155 : Cond.code yJ1_indexOf_4cfef prog_16_method_22_code 4 (Option.some Jvm.ClassFile.FieldType.int) ∈ nt_tbl := nt_t1 207 rfl rfl
theorem wd_156 : Cond.methodLink RJ1 88 yJ1_canEncode_9a6ad ∈ nt_tbl := nt_t1 208 rfl rfl
theorem wd_157 : Cond.static yJ1_canEncode_9a6ad ∈ nt_tbl := nt_t1 209 rfl rfl
theorem wd_158 : Cond.code yJ1_canEncode_9a6ad prog_16_method_4_code 1 (Option.some Jvm.ClassFile.FieldType.boolean) ∈ nt_tbl := nt_t1 210 rfl rfl
theorem wd_159 : Cond.methodLink RJ1 92 Lib.Math.max.name ∈ nt_tbl := nt_t1 211 rfl rfl
theorem wd_160 : Cond.static Lib.Math.max.name ∈ nt_tbl := nt_t1 212 rfl rfl
theorem wd_161 : Cond.code Lib.Math.max.name prog_14_method_65_code 2 (Option.some Jvm.ClassFile.FieldType.int) ∈ nt_tbl := nt_t1 213 rfl rfl
theorem wd_162 : Cond.methodLink RJ1 38 Lib.Math.min.name ∈ nt_tbl := nt_t1 214 rfl rfl
theorem wd_163 : Cond.static Lib.Math.min.name ∈ nt_tbl := nt_t1 215 rfl rfl
theorem wd_164 : Cond.code Lib.Math.min.name prog_14_method_69_code 2 (Option.some Jvm.ClassFile.FieldType.int) ∈ nt_tbl := nt_t1 216 rfl rfl
theorem wd_165 : Cond.methodLink RJ1 95 yJ1_indexOfChar_4cfef ∈ nt_tbl := nt_t1 217 rfl rfl
theorem wd_166 : Cond.static yJ1_indexOfChar_4cfef ∈ nt_tbl := nt_t1 218 rfl rfl
theorem wd_167 : Cond.code yJ1_indexOfChar_4cfef prog_16_method_23_code 6 (Option.some Jvm.ClassFile.FieldType.int) ∈ nt_tbl := nt_t1 219 rfl rfl
theorem wd_168 : Cond.methodLink RJ0 640 yJ2_indexOf_4cfef ∈ nt_tbl := nt_t1 220 rfl rfl
theorem wd_169 : Cond.static yJ2_indexOf_4cfef ∈ nt_tbl := nt_t1 221 rfl rfl
theorem wd_170 : Cond.code yJ2_indexOf_4cfef prog_17_method_40_code 4 (Option.some Jvm.ClassFile.FieldType.int) ∈ nt_tbl := nt_t1 222 rfl rfl
theorem wd_171 : Cond.methodLink RJ2 224 Lib.Math.max.name ∈ nt_tbl := nt_t1 223 rfl rfl
theorem wd_172 : Cond.methodLink RJ2 183 Lib.Math.min.name ∈ nt_tbl := nt_t1 224 rfl rfl
theorem wd_173 : Cond.constant RJ2 227 (65536 : Int32) ∈ nt_tbl := nt_t1 225 rfl rfl
theorem wd_174 : Cond.methodLink RJ2 228 yJ2_indexOfChar_4cfef ∈ nt_tbl := nt_t1 226 rfl rfl
theorem wd_175 : Cond.static yJ2_indexOfChar_4cfef ∈ nt_tbl := nt_t1 227 rfl rfl
theorem wd_176 : Cond.code yJ2_indexOfChar_4cfef prog_17_method_47_code 4 (Option.some Jvm.ClassFile.FieldType.int) ∈ nt_tbl := nt_t1 228 rfl rfl
theorem wd_177 : Cond.methodLink RJ2 96 yJ2_checkBoundsBeginEnd_d044e ∈ nt_tbl := nt_t1 229 rfl rfl
theorem wd_178 : Cond.static yJ2_checkBoundsBeginEnd_d044e ∈ nt_tbl := nt_t1 230 rfl rfl
theorem wd_179 : Cond.code yJ2_checkBoundsBeginEnd_d044e prog_17_method_93_code 3 (Option.none : Option Jvm.ClassFile.FieldType) ∈ nt_tbl := nt_t1 231 rfl rfl
theorem wd_180 : Cond.methodLink RJ2 241 yJ0_checkBoundsBeginEnd_23922 ∈ nt_tbl := nt_t1 232 rfl rfl
theorem wd_181 : Cond.static yJ0_checkBoundsBeginEnd_23922 ∈ nt_tbl := nt_t1 233 rfl rfl
theorem wd_182 : Cond.code yJ0_checkBoundsBeginEnd_23922 prog_15_method_158_code 3 (Option.none : Option Jvm.ClassFile.FieldType) ∈ nt_tbl := nt_t1 234 rfl rfl
theorem wd_183 : Cond.methodLink RJ0 1062 yJ3_checkFromToIndex_8c36e ∈ nt_tbl := nt_t1 235 rfl rfl
theorem wd_184 : Cond.static yJ3_checkFromToIndex_8c36e ∈ nt_tbl := nt_t1 236 rfl rfl
theorem wd_185 : Cond.code yJ3_checkFromToIndex_8c36e prog_19_method_12_code 4 (Option.some Jvm.ClassFile.FieldType.int) ∈ nt_tbl := nt_t1 237 rfl rfl
theorem wd_186 : Cond.methodLink RJ2 244 yJ2_indexOfCharUnsafe_4cfef ∈ nt_tbl := nt_t1 238 rfl rfl
theorem wd_187 : Cond.static yJ2_indexOfCharUnsafe_4cfef ∈ nt_tbl := nt_t1 239 rfl rfl
theorem wd_188 : Cond.code yJ2_indexOfCharUnsafe_4cfef prog_17_method_48_code 5 (Option.some Jvm.ClassFile.FieldType.int) ∈ nt_tbl := nt_t2 0 rfl rfl
theorem wd_189 : Cond.methodLink RJ2 232 yJ2_indexOfSupplementary_4cfef ∈ nt_tbl := nt_t2 1 rfl rfl
theorem wd_190 : Cond.static yJ2_indexOfSupplementary_4cfef ∈ nt_tbl := nt_t2 2 rfl rfl
theorem wd_191 : Cond.code yJ2_indexOfSupplementary_4cfef prog_17_method_49_code 7 (Option.some Jvm.ClassFile.FieldType.int) ∈ nt_tbl := nt_t2 3 rfl rfl
theorem wd_192 : Cond.methodLink RJ2 164 yJ11_isValidCodePoint_9a6ad ∈ nt_tbl := nt_t2 4 rfl rfl
theorem wd_193 : Cond.static yJ11_isValidCodePoint_9a6ad ∈ nt_tbl := nt_t2 5 rfl rfl
theorem wd_194 : Cond.code yJ11_isValidCodePoint_9a6ad prog_12_method_11_code 2 (Option.some Jvm.ClassFile.FieldType.boolean) ∈ nt_tbl := nt_t2 6 rfl rfl
theorem wd_195 : Cond.methodLink RJ2 157 yJ11_highSurrogate_5068e ∈ nt_tbl := nt_t2 7 rfl rfl
theorem wd_196 : Cond.static yJ11_highSurrogate_5068e ∈ nt_tbl := nt_t2 8 rfl rfl
theorem wd_197 : Cond.code yJ11_highSurrogate_5068e prog_12_method_28_code 1 (Option.some Jvm.ClassFile.FieldType.char) ∈ nt_tbl := nt_t2 9 rfl rfl
theorem wd_198 : Cond.constant RJ11 110 (55232 : Int32) ∈ nt_tbl := nt_t2 10 rfl rfl
theorem wd_199 : Cond.methodLink RJ2 161 yJ11_lowSurrogate_5068e ∈ nt_tbl := nt_t2 11 rfl rfl
theorem wd_200 : Cond.static yJ11_lowSurrogate_5068e ∈ nt_tbl := nt_t2 12 rfl rfl
theorem wd_201 : Cond.code yJ11_lowSurrogate_5068e prog_12_method_29_code 1 (Option.some Jvm.ClassFile.FieldType.char) ∈ nt_tbl := nt_t2 13 rfl rfl
theorem wd_202 : Cond.constant RJ11 76 (56320 : Int32) ∈ nt_tbl := nt_t2 14 rfl rfl
theorem wd_203 : Cond.methodLink RX1 63 yX1_takes ∈ nt_tbl := nt_t2 15 rfl rfl
theorem wd_204 : Cond.instanceMethod yX1_takes ∈ nt_tbl := nt_t2 17 rfl rfl
theorem wd_205 : Cond.code yX1_takes prog_3_method_12_code 2 (Option.some Jvm.ClassFile.FieldType.boolean) ∈ nt_tbl := nt_t2 18 rfl rfl
theorem wd_206 : Cond.methodLink RX1 67 yX1_readsLevel ∈ nt_tbl := nt_t2 19 rfl rfl
theorem wd_207 : Cond.instanceMethod yX1_readsLevel ∈ nt_tbl := nt_t2 21 rfl rfl
theorem wd_208 : Cond.code yX1_readsLevel prog_3_method_8_code 6 (Option.some Jvm.ClassFile.FieldType.boolean) ∈ nt_tbl := nt_t2 22 rfl rfl
theorem wd_209 : Cond.methodLink RX1 73 yX1_readsOpened ∈ nt_tbl := nt_t2 23 rfl rfl
theorem wd_210 : Cond.instanceMethod yX1_readsOpened ∈ nt_tbl := nt_t2 25 rfl rfl
theorem wd_211 : Cond.code yX1_readsOpened prog_3_method_10_code 3 (Option.some Jvm.ClassFile.FieldType.boolean) ∈ nt_tbl := nt_t2 26 rfl rfl
theorem wd_212 : Cond.methodLink RX1 83 yX1_write ∈ nt_tbl := nt_t2 27 rfl rfl
theorem wd_213 : Cond.instanceMethod yX1_write ∈ nt_tbl := nt_t2 29 rfl rfl
theorem wd_214 : Cond.code yX1_write prog_3_method_13_code 2 (Option.none : Option Jvm.ClassFile.FieldType) ∈ nt_tbl := nt_t2 30 rfl rfl
theorem wd_215 : Cond.methodLink RX1 77 yX1_readsPlain ∈ nt_tbl := nt_t2 31 rfl rfl
theorem wd_216 : Cond.instanceMethod yX1_readsPlain ∈ nt_tbl := nt_t2 33 rfl rfl
theorem wd_217 : Cond.code yX1_readsPlain prog_3_method_11_code 1 (Option.some Jvm.ClassFile.FieldType.boolean) ∈ nt_tbl := nt_t2 34 rfl rfl
theorem wd_218 : Cond.methodLink RX1 80 yX1_levelOf ∈ nt_tbl := nt_t2 35 rfl rfl
theorem wd_219 : Cond.static yX1_levelOf ∈ nt_tbl := nt_t2 36 rfl rfl
theorem wd_220 : Cond.code yX1_levelOf prog_3_method_9_code 1 (Option.some Jvm.ClassFile.FieldType.int) ∈ nt_tbl := nt_t2 37 rfl rfl
theorem wd_221 : Cond.instanceMethod yX1_made ∈ nt_tbl := nt_t2 40 rfl rfl
theorem wd_222 : Cond.code yX1_made prog_3_method_6_code 1 (Option.some (Jvm.ClassFile.FieldType.object "NotTwice$Rule")) ∈ nt_tbl := nt_t2 41 rfl rfl
theorem wd_223 : Cond.classLink RX1 44 "NotTwice$Rule" ∈ nt_tbl := nt_t2 42 rfl rfl
theorem wd_224 : Cond.instantiable RX2 3 ∈ nt_tbl := nt_t2 43 rfl rfl
theorem wd_225 : Cond.instanceMethod yX2_init ∈ nt_tbl := nt_t2 45 rfl rfl
theorem wd_226 : Cond.code yX2_init prog_4_method_1_code 5 (Option.none : Option Jvm.ClassFile.FieldType) ∈ nt_tbl := nt_t2 46 rfl rfl
theorem wd_227 : Cond.methodLink RX2 3 objectInit ∈ nt_tbl := nt_t2 47 rfl rfl
theorem wd_228 : Cond.methodLink RX2 15 arraycopyName ∈ nt_tbl := nt_t2 48 rfl rfl
theorem wd_229 : Cond.static arraycopyName ∈ nt_tbl := nt_t2 49 rfl rfl
theorem wd_230 : Cond.native arraycopyName ∈ nt_tbl := nt_t2 50 rfl rfl
theorem wd_231 : Cond.fieldLink RX2 9 "NotTwice$Rule" "code" "[I" ∈ nt_tbl := nt_t2 51 rfl rfl
theorem wd_232 : Cond.fieldLink RX2 21 "NotTwice$Rule" "paysAt" "I" ∈ nt_tbl := nt_t2 52 rfl rfl
theorem wd_233 : Cond.fieldLink RX2 25 "NotTwice$Rule" "tiresAt" "I" ∈ nt_tbl := nt_t2 53 rfl rfl
theorem wd_234 : Cond.laysFinal "NotTwice$Rule" "NotTwice$Rule" "code" "[I" ∈ nt_tbl := nt_t2 54 rfl rfl
theorem wd_235 : Cond.laysFinal "NotTwice$Rule" "NotTwice$Rule" "paysAt" "I" ∈ nt_tbl := nt_t2 56 rfl rfl
theorem wd_236 : Cond.laysFinal "NotTwice$Rule" "NotTwice$Rule" "tiresAt" "I" ∈ nt_tbl := nt_t2 58 rfl rfl
theorem wd_237 : Cond.arrayClass Jvm.ClassFile.FieldType.byte ∈ nt_tbl := nt_t2 61 rfl rfl
theorem wd_238 : Cond.instanceMethod yX7_add ∈ nt_tbl := nt_t2 64 rfl rfl
theorem wd_239 : Cond.code yX7_add prog_9_method_5_code 2 (Option.some Jvm.ClassFile.FieldType.int) ∈ nt_tbl := nt_t2 65 rfl rfl
theorem wd_240 : Cond.methodLink RX7 34 yX7_isFull ∈ nt_tbl := nt_t2 66 rfl rfl
theorem wd_241 : Cond.instanceMethod yX7_isFull ∈ nt_tbl := nt_t2 68 rfl rfl
theorem wd_242 : Cond.code yX7_isFull prog_9_method_4_code 1 (Option.some Jvm.ClassFile.FieldType.boolean) ∈ nt_tbl := nt_t2 69 rfl rfl
theorem wd_243 : Cond.instanceMethod yX1_empty ∈ nt_tbl := nt_t2 72 rfl rfl
theorem wd_244 : Cond.code yX1_empty prog_3_method_4_code 1 (Option.none : Option Jvm.ClassFile.FieldType) ∈ nt_tbl := nt_t2 73 rfl rfl
theorem wd_245 : Cond.classLink RX8 48 "NotTwice$People" ∈ nt_tbl := nt_t2 74 rfl rfl
theorem wd_246 : Cond.instantiable RX0 14 ∈ nt_tbl := nt_t2 75 rfl rfl
theorem wd_247 : Cond.instanceMethod yX0_init ∈ nt_tbl := nt_t2 77 rfl rfl
theorem wd_248 : Cond.code yX0_init prog_2_method_1_code 3 (Option.none : Option Jvm.ClassFile.FieldType) ∈ nt_tbl := nt_t2 78 rfl rfl
theorem wd_249 : Cond.methodLink RX0 3 objectInit ∈ nt_tbl := nt_t2 79 rfl rfl
theorem wd_250 : Cond.fieldLink RX0 30 "NotTwice$People" "shelf" "LNotTwice$Shelf;" ∈ nt_tbl := nt_t2 80 rfl rfl
theorem wd_251 : Cond.fieldLink RX0 34 "NotTwice$People" "texts" "LNotTwice$Texts;" ∈ nt_tbl := nt_t2 82 rfl rfl
theorem wd_252 : Cond.fieldLink RX0 9 "NotTwice$People" "house" "[I" ∈ nt_tbl := nt_t2 83 rfl rfl
theorem wd_253 : Cond.fieldLink RX0 15 "NotTwice$People" "age" "[I" ∈ nt_tbl := nt_t2 85 rfl rfl
theorem wd_254 : Cond.fieldLink RX0 18 "NotTwice$People" "tells" "[I" ∈ nt_tbl := nt_t2 87 rfl rfl
theorem wd_255 : Cond.fieldLink RX0 21 "NotTwice$People" "heard" "[I" ∈ nt_tbl := nt_t2 90 rfl rfl
theorem wd_256 : Cond.fieldLink RX0 24 "NotTwice$People" "since" "[I" ∈ nt_tbl := nt_t2 92 rfl rfl
theorem wd_257 : Cond.fieldLink RX0 38 "NotTwice$People" "size" "I" ∈ nt_tbl := nt_t2 93 rfl rfl
theorem wd_258 : Cond.fieldLink RX0 60 "NotTwice$People" "night" "I" ∈ nt_tbl := nt_t2 96 rfl rfl
theorem wd_259 : Cond.fieldLink RX0 63 "NotTwice$People" "rule" "I" ∈ nt_tbl := nt_t2 98 rfl rfl
theorem wd_260 : Cond.fieldLink RX0 72 "NotTwice$People" "many" "I" ∈ nt_tbl := nt_t2 100 rfl rfl
theorem wd_261 : Cond.fieldLink RX0 27 "NotTwice$People" "known" "[I" ∈ nt_tbl := nt_t2 101 rfl rfl
theorem wd_262 : Cond.fieldLink RX0 75 "NotTwice$People" "knownToOne" "I" ∈ nt_tbl := nt_t2 102 rfl rfl
theorem wd_263 : Cond.fieldLink RX0 78 "NotTwice$People" "knownToTwo" "I" ∈ nt_tbl := nt_t2 103 rfl rfl
theorem wd_264 : Cond.laysFinal "NotTwice$People" "NotTwice$People" "shelf" "LNotTwice$Shelf;" ∈ nt_tbl := nt_t2 104 rfl rfl
theorem wd_265 : Cond.laysFinal "NotTwice$People" "NotTwice$People" "texts" "LNotTwice$Texts;" ∈ nt_tbl := nt_t2 106 rfl rfl
theorem wd_266 : Cond.laysFinal "NotTwice$People" "NotTwice$People" "house" "[I" ∈ nt_tbl := nt_t2 108 rfl rfl
theorem wd_267 : Cond.laysFinal "NotTwice$People" "NotTwice$People" "age" "[I" ∈ nt_tbl := nt_t2 110 rfl rfl
theorem wd_268 : Cond.laysFinal "NotTwice$People" "NotTwice$People" "tells" "[I" ∈ nt_tbl := nt_t2 112 rfl rfl
theorem wd_269 : Cond.laysFinal "NotTwice$People" "NotTwice$People" "heard" "[I" ∈ nt_tbl := nt_t2 114 rfl rfl
theorem wd_270 : Cond.laysFinal "NotTwice$People" "NotTwice$People" "since" "[I" ∈ nt_tbl := nt_t2 116 rfl rfl
theorem wd_271 : Cond.lays "NotTwice$People" "NotTwice$People" "size" "I" ∈ nt_tbl := nt_t2 118 rfl rfl
theorem wd_272 : Cond.lays "NotTwice$People" "NotTwice$People" "night" "I" ∈ nt_tbl := nt_t2 120 rfl rfl
theorem wd_273 : Cond.lays "NotTwice$People" "NotTwice$People" "rule" "I" ∈ nt_tbl := nt_t2 122 rfl rfl
theorem wd_274 : Cond.lays "NotTwice$People" "NotTwice$People" "many" "I" ∈ nt_tbl := nt_t2 124 rfl rfl
theorem wd_275 : Cond.laysFinal "NotTwice$People" "NotTwice$People" "known" "[I" ∈ nt_tbl := nt_t2 126 rfl rfl
theorem wd_276 : Cond.lays "NotTwice$People" "NotTwice$People" "knownToOne" "I" ∈ nt_tbl := nt_t2 128 rfl rfl
theorem wd_277 : Cond.lays "NotTwice$People" "NotTwice$People" "knownToTwo" "I" ∈ nt_tbl := nt_t2 130 rfl rfl
theorem wd_278 : Cond.classLink RX8 63 "NotTwice$Seating" ∈ nt_tbl := nt_t2 133 rfl rfl
theorem wd_279 : Cond.instantiable RX3 9 ∈ nt_tbl := nt_t2 134 rfl rfl
theorem wd_280 : Cond.instanceMethod yX3_init ∈ nt_tbl := nt_t2 136 rfl rfl
theorem wd_281 : Cond.code yX3_init prog_5_method_1_code 2 (Option.none : Option Jvm.ClassFile.FieldType) ∈ nt_tbl := nt_t2 137 rfl rfl
theorem wd_282 : Cond.methodLink RX3 3 objectInit ∈ nt_tbl := nt_t2 138 rfl rfl
theorem wd_283 : Cond.fieldLink RX3 33 "NotTwice$Seating" "people" "LNotTwice$People;" ∈ nt_tbl := nt_t2 139 rfl rfl
theorem wd_284 : Cond.fieldLink RX3 9 "NotTwice$Seating" "seat" "[I" ∈ nt_tbl := nt_t2 140 rfl rfl
theorem wd_285 : Cond.fieldLink RX3 15 "NotTwice$Seating" "bestSeat" "[I" ∈ nt_tbl := nt_t2 141 rfl rfl
theorem wd_286 : Cond.fieldLink RX3 46 "NotTwice$Seating" "best" "I" ∈ nt_tbl := nt_t2 143 rfl rfl
theorem wd_287 : Cond.fieldLink RX3 18 "NotTwice$Seating" "known" "[I" ∈ nt_tbl := nt_t2 145 rfl rfl
theorem wd_288 : Cond.fieldLink RX3 21 "NotTwice$Seating" "awake" "[I" ∈ nt_tbl := nt_t2 146 rfl rfl
theorem wd_289 : Cond.fieldLink RX3 24 "NotTwice$Seating" "many" "[I" ∈ nt_tbl := nt_t2 147 rfl rfl
theorem wd_290 : Cond.fieldLink RX3 27 "NotTwice$Seating" "knownToOne" "[I" ∈ nt_tbl := nt_t2 148 rfl rfl
theorem wd_291 : Cond.fieldLink RX3 30 "NotTwice$Seating" "knownToTwo" "[I" ∈ nt_tbl := nt_t2 149 rfl rfl
theorem wd_292 : Cond.laysFinal "NotTwice$Seating" "NotTwice$Seating" "people" "LNotTwice$People;" ∈ nt_tbl := nt_t2 150 rfl rfl
theorem wd_293 : Cond.laysFinal "NotTwice$Seating" "NotTwice$Seating" "seat" "[I" ∈ nt_tbl := nt_t2 152 rfl rfl
theorem wd_294 : Cond.laysFinal "NotTwice$Seating" "NotTwice$Seating" "bestSeat" "[I" ∈ nt_tbl := nt_t2 154 rfl rfl
theorem wd_295 : Cond.lays "NotTwice$Seating" "NotTwice$Seating" "best" "I" ∈ nt_tbl := nt_t2 156 rfl rfl
theorem wd_296 : Cond.laysFinal "NotTwice$Seating" "NotTwice$Seating" "known" "[I" ∈ nt_tbl := nt_t2 158 rfl rfl
theorem wd_297 : Cond.laysFinal "NotTwice$Seating" "NotTwice$Seating" "awake" "[I" ∈ nt_tbl := nt_t2 160 rfl rfl
theorem wd_298 : Cond.laysFinal "NotTwice$Seating" "NotTwice$Seating" "many" "[I" ∈ nt_tbl := nt_t2 162 rfl rfl
theorem wd_299 : Cond.laysFinal "NotTwice$Seating" "NotTwice$Seating" "knownToOne" "[I" ∈ nt_tbl := nt_t2 164 rfl rfl
theorem wd_300 : Cond.laysFinal "NotTwice$Seating" "NotTwice$Seating" "knownToTwo" "[I" ∈ nt_tbl := nt_t2 166 rfl rfl
theorem wd_301 : Cond.classLink RX8 72 "NotTwice$Sheets" ∈ nt_tbl := nt_t2 169 rfl rfl
theorem wd_302 : Cond.instantiable RX4 3 ∈ nt_tbl := nt_t2 170 rfl rfl
theorem wd_303 : Cond.instanceMethod yX4_init ∈ nt_tbl := nt_t2 172 rfl rfl
theorem wd_304 : Cond.code yX4_init prog_6_method_1_code 2 (Option.none : Option Jvm.ClassFile.FieldType) ∈ nt_tbl := nt_t2 173 rfl rfl
theorem wd_305 : Cond.methodLink RX4 3 objectInit ∈ nt_tbl := nt_t2 174 rfl rfl
theorem wd_306 : Cond.fieldLink RX4 11 "NotTwice$Sheets" "sort" "[I" ∈ nt_tbl := nt_t2 175 rfl rfl
theorem wd_307 : Cond.fieldLink RX4 15 "NotTwice$Sheets" "size" "[I" ∈ nt_tbl := nt_t2 177 rfl rfl
theorem wd_308 : Cond.fieldLink RX4 18 "NotTwice$Sheets" "items" "[I" ∈ nt_tbl := nt_t2 179 rfl rfl
theorem wd_309 : Cond.laysFinal "NotTwice$Sheets" "NotTwice$Sheets" "sort" "[I" ∈ nt_tbl := nt_t2 180 rfl rfl
theorem wd_310 : Cond.laysFinal "NotTwice$Sheets" "NotTwice$Sheets" "size" "[I" ∈ nt_tbl := nt_t2 182 rfl rfl
theorem wd_311 : Cond.laysFinal "NotTwice$Sheets" "NotTwice$Sheets" "items" "[I" ∈ nt_tbl := nt_t2 184 rfl rfl
theorem wd_312 : Cond.fieldLink RX8 12 "NotTwice" "shelf" "LNotTwice$Shelf;" ∈ nt_tbl := nt_t2 187 rfl rfl
theorem wd_313 : Cond.fieldLink RX8 19 "NotTwice" "texts" "LNotTwice$Texts;" ∈ nt_tbl := nt_t2 188 rfl rfl
theorem wd_314 : Cond.fieldLink RX8 26 "NotTwice" "reader" "LNotTwice$Reader;" ∈ nt_tbl := nt_t2 189 rfl rfl
theorem wd_315 : Cond.fieldLink RX8 53 "NotTwice" "now" "LNotTwice$People;" ∈ nt_tbl := nt_t2 190 rfl rfl
theorem wd_316 : Cond.fieldLink RX8 57 "NotTwice" "thought" "LNotTwice$People;" ∈ nt_tbl := nt_t2 191 rfl rfl
theorem wd_317 : Cond.fieldLink RX8 60 "NotTwice" "image" "LNotTwice$People;" ∈ nt_tbl := nt_t2 192 rfl rfl
theorem wd_318 : Cond.fieldLink RX8 68 "NotTwice" "seating" "LNotTwice$Seating;" ∈ nt_tbl := nt_t2 193 rfl rfl
theorem wd_319 : Cond.fieldLink RX8 75 "NotTwice" "sheets" "LNotTwice$Sheets;" ∈ nt_tbl := nt_t2 194 rfl rfl
theorem wd_320 : Cond.fieldLink RX8 235 "NotTwice" "imageKept" "Z" ∈ nt_tbl := nt_t2 195 rfl rfl
theorem wd_321 : Cond.laysFinal "NotTwice" "NotTwice" "shelf" "LNotTwice$Shelf;" ∈ nt_tbl := nt_t2 196 rfl rfl
theorem wd_322 : Cond.laysFinal "NotTwice" "NotTwice" "texts" "LNotTwice$Texts;" ∈ nt_tbl := nt_t2 198 rfl rfl
theorem wd_323 : Cond.laysFinal "NotTwice" "NotTwice" "reader" "LNotTwice$Reader;" ∈ nt_tbl := nt_t2 200 rfl rfl
theorem wd_324 : Cond.laysFinal "NotTwice" "NotTwice" "now" "LNotTwice$People;" ∈ nt_tbl := nt_t2 202 rfl rfl
theorem wd_325 : Cond.laysFinal "NotTwice" "NotTwice" "thought" "LNotTwice$People;" ∈ nt_tbl := nt_t2 204 rfl rfl
theorem wd_326 : Cond.laysFinal "NotTwice" "NotTwice" "image" "LNotTwice$People;" ∈ nt_tbl := nt_t2 206 rfl rfl
theorem wd_327 : Cond.laysFinal "NotTwice" "NotTwice" "seating" "LNotTwice$Seating;" ∈ nt_tbl := nt_t2 208 rfl rfl
theorem wd_328 : Cond.laysFinal "NotTwice" "NotTwice" "sheets" "LNotTwice$Sheets;" ∈ nt_tbl := nt_t2 210 rfl rfl
theorem wd_329 : Cond.lays "NotTwice" "NotTwice" "imageKept" "Z" ∈ nt_tbl := nt_t2 212 rfl rfl
theorem wd_330 : Cond.methodLink RL 13 yX8_story ∈ nt_tbl := nt_t2 215 rfl rfl
theorem wd_331 : Cond.instanceMethod yX8_story ∈ nt_tbl := nt_t2 216 rfl rfl
theorem wd_332 : Cond.selects RX8 yX8_story yX8_story ∈ nt_tbl := nt_t2 217 rfl rfl
theorem wd_333 : Cond.code yX8_story prog_1_method_2_code 4 (Option.some Jvm.ClassFile.FieldType.int) ∈ nt_tbl := nt_t2 218 rfl rfl
theorem wd_334 : Cond.methodLink RX8 79 yX8_isBelow ∈ nt_tbl := nt_t2 219 rfl rfl
theorem wd_335 : Cond.static yX8_isBelow ∈ nt_tbl := nt_t2 220 rfl rfl
theorem wd_336 : Cond.code yX8_isBelow prog_1_method_34_code 2 (Option.some Jvm.ClassFile.FieldType.boolean) ∈ nt_tbl := nt_t2 221 rfl rfl
theorem wd_337 : Cond.instanceMethod yX5_add ∈ nt_tbl := nt_t2 224 rfl rfl
theorem wd_338 : Cond.code yX5_add prog_7_method_4_code 4 (Option.some Jvm.ClassFile.FieldType.int) ∈ nt_tbl := nt_t2 225 rfl rfl
theorem wd_339 : Cond.methodLink RL 18 yX8_twin ∈ nt_tbl := nt_t2 226 rfl rfl
theorem wd_340 : Cond.instanceMethod yX8_twin ∈ nt_tbl := nt_t2 227 rfl rfl
theorem wd_341 : Cond.selects RX8 yX8_twin yX8_twin ∈ nt_tbl := nt_t2 228 rfl rfl
theorem wd_342 : Cond.code yX8_twin prog_1_method_3_code 3 (Option.some Jvm.ClassFile.FieldType.int) ∈ nt_tbl := nt_t2 229 rfl rfl
theorem wd_343 : Cond.instanceMethod yX5_has ∈ nt_tbl := nt_t2 232 rfl rfl
theorem wd_344 : Cond.code yX5_has prog_7_method_2_code 2 (Option.some Jvm.ClassFile.FieldType.boolean) ∈ nt_tbl := nt_t2 233 rfl rfl
theorem wd_345 : Cond.instanceMethod yX5_join ∈ nt_tbl := nt_t2 237 rfl rfl
theorem wd_346 : Cond.code yX5_join prog_7_method_5_code 3 (Option.none : Option Jvm.ClassFile.FieldType) ∈ nt_tbl := nt_t2 238 rfl rfl
theorem wd_347 : Cond.methodLink RX5 32 yX5_part ∈ nt_tbl := nt_t2 239 rfl rfl
theorem wd_348 : Cond.instanceMethod yX5_part ∈ nt_tbl := nt_t3 1 rfl rfl
theorem wd_349 : Cond.code yX5_part prog_7_method_6_code 3 (Option.none : Option Jvm.ClassFile.FieldType) ∈ nt_tbl := nt_t3 2 rfl rfl
theorem wd_350 : Cond.methodLink RX5 36 yX5_has ∈ nt_tbl := nt_t3 3 rfl rfl
theorem wd_351 : Cond.methodLink RL 23 yX8_person ∈ nt_tbl := nt_t3 4 rfl rfl
theorem wd_352 : Cond.instanceMethod yX8_person ∈ nt_tbl := nt_t3 5 rfl rfl
theorem wd_353 : Cond.selects RX8 yX8_person yX8_person ∈ nt_tbl := nt_t3 6 rfl rfl
theorem wd_354 : Cond.code yX8_person prog_1_method_4_code 3 (Option.some Jvm.ClassFile.FieldType.int) ∈ nt_tbl := nt_t3 7 rfl rfl
theorem wd_355 : Cond.instanceMethod yX0_come ∈ nt_tbl := nt_t3 10 rfl rfl
theorem wd_356 : Cond.code yX0_come prog_2_method_3_code 3 (Option.some Jvm.ClassFile.FieldType.int) ∈ nt_tbl := nt_t3 11 rfl rfl
theorem wd_357 : Cond.methodLink RX0 46 yX0_sit ∈ nt_tbl := nt_t3 13 rfl rfl
theorem wd_358 : Cond.instanceMethod yX0_sit ∈ nt_tbl := nt_t3 15 rfl rfl
theorem wd_359 : Cond.code yX0_sit prog_2_method_4_code 4 (Option.none : Option Jvm.ClassFile.FieldType) ∈ nt_tbl := nt_t3 16 rfl rfl
theorem wd_360 : Cond.methodLink RL 27 yX8_set ∈ nt_tbl := nt_t3 17 rfl rfl
theorem wd_361 : Cond.instanceMethod yX8_set ∈ nt_tbl := nt_t3 18 rfl rfl
theorem wd_362 : Cond.selects RX8 yX8_set yX8_set ∈ nt_tbl := nt_t3 19 rfl rfl
theorem wd_363 : Cond.code yX8_set prog_1_method_5_code 4 (Option.some Jvm.ClassFile.FieldType.int) ∈ nt_tbl := nt_t3 20 rfl rfl
theorem wd_364 : Cond.instanceMethod yX0_has ∈ nt_tbl := nt_t3 23 rfl rfl
theorem wd_365 : Cond.code yX0_has prog_2_method_2_code 2 (Option.some Jvm.ClassFile.FieldType.boolean) ∈ nt_tbl := nt_t3 24 rfl rfl
theorem wd_366 : Cond.methodLink RX8 99 yX8_isHouse ∈ nt_tbl := nt_t3 25 rfl rfl
theorem wd_367 : Cond.static yX8_isHouse ∈ nt_tbl := nt_t3 26 rfl rfl
theorem wd_368 : Cond.code yX8_isHouse prog_1_method_35_code 1 (Option.some Jvm.ClassFile.FieldType.boolean) ∈ nt_tbl := nt_t3 27 rfl rfl
theorem wd_369 : Cond.methodLink RX8 106 yX8_put ∈ nt_tbl := nt_t3 28 rfl rfl
theorem wd_370 : Cond.static yX8_put ∈ nt_tbl := nt_t3 29 rfl rfl
theorem wd_371 : Cond.code yX8_put prog_1_method_36_code 4 (Option.some Jvm.ClassFile.FieldType.int) ∈ nt_tbl := nt_t3 30 rfl rfl
theorem wd_372 : Cond.methodLink RL 31 yX8_hears ∈ nt_tbl := nt_t3 31 rfl rfl
theorem wd_373 : Cond.instanceMethod yX8_hears ∈ nt_tbl := nt_t3 32 rfl rfl
theorem wd_374 : Cond.selects RX8 yX8_hears yX8_hears ∈ nt_tbl := nt_t3 33 rfl rfl
theorem wd_375 : Cond.code yX8_hears prog_1_method_6_code 5 (Option.some Jvm.ClassFile.FieldType.int) ∈ nt_tbl := nt_t3 34 rfl rfl
theorem wd_376 : Cond.instanceMethod yX0_hear ∈ nt_tbl := nt_t3 37 rfl rfl
theorem wd_377 : Cond.code yX0_hear prog_2_method_7_code 3 (Option.none : Option Jvm.ClassFile.FieldType) ∈ nt_tbl := nt_t3 38 rfl rfl
theorem wd_378 : Cond.instanceMethod yX0_forget ∈ nt_tbl := nt_t3 41 rfl rfl
theorem wd_379 : Cond.code yX0_forget prog_2_method_8_code 3 (Option.none : Option Jvm.ClassFile.FieldType) ∈ nt_tbl := nt_t3 42 rfl rfl
theorem wd_380 : Cond.methodLink RL 35 yX8_told ∈ nt_tbl := nt_t3 43 rfl rfl
theorem wd_381 : Cond.instanceMethod yX8_told ∈ nt_tbl := nt_t3 44 rfl rfl
theorem wd_382 : Cond.selects RX8 yX8_told yX8_told ∈ nt_tbl := nt_t3 45 rfl rfl
theorem wd_383 : Cond.code yX8_told prog_1_method_7_code 4 (Option.some Jvm.ClassFile.FieldType.int) ∈ nt_tbl := nt_t3 46 rfl rfl
theorem wd_384 : Cond.instanceMethod yX5_stays ∈ nt_tbl := nt_t3 49 rfl rfl
theorem wd_385 : Cond.code yX5_stays prog_7_method_9_code 5 (Option.some Jvm.ClassFile.FieldType.int) ∈ nt_tbl := nt_t3 50 rfl rfl
theorem wd_386 : Cond.methodLink RX5 40 Lib.Math.max.name ∈ nt_tbl := nt_t3 51 rfl rfl
theorem wd_387 : Cond.instanceMethod yX5_counts ∈ nt_tbl := nt_t3 54 rfl rfl
theorem wd_388 : Cond.code yX5_counts prog_7_method_8_code 6 (Option.some Jvm.ClassFile.FieldType.int) ∈ nt_tbl := nt_t3 55 rfl rfl
theorem wd_389 : Cond.methodLink RL 39 yX8_one ∈ nt_tbl := nt_t3 56 rfl rfl
theorem wd_390 : Cond.instanceMethod yX8_one ∈ nt_tbl := nt_t3 57 rfl rfl
theorem wd_391 : Cond.selects RX8 yX8_one yX8_one ∈ nt_tbl := nt_t3 58 rfl rfl
theorem wd_392 : Cond.code yX8_one prog_1_method_8_code 3 (Option.some Jvm.ClassFile.FieldType.int) ∈ nt_tbl := nt_t3 59 rfl rfl
theorem wd_393 : Cond.instanceMethod yX0_knows ∈ nt_tbl := nt_t3 62 rfl rfl
theorem wd_394 : Cond.code yX0_knows prog_2_method_9_code 2 (Option.some Jvm.ClassFile.FieldType.int) ∈ nt_tbl := nt_t3 63 rfl rfl
theorem wd_395 : Cond.instanceMethod yX5_withTwins ∈ nt_tbl := nt_t3 66 rfl rfl
theorem wd_396 : Cond.code yX5_withTwins prog_7_method_7_code 4 (Option.some Jvm.ClassFile.FieldType.int) ∈ nt_tbl := nt_t3 67 rfl rfl
theorem wd_397 : Cond.methodLink RL 43 yX8_feed ∈ nt_tbl := nt_t3 68 rfl rfl
theorem wd_398 : Cond.instanceMethod yX8_feed ∈ nt_tbl := nt_t3 69 rfl rfl
theorem wd_399 : Cond.selects RX8 yX8_feed yX8_feed ∈ nt_tbl := nt_t3 70 rfl rfl
theorem wd_400 : Cond.code yX8_feed prog_1_method_9_code 2 (Option.some Jvm.ClassFile.FieldType.int) ∈ nt_tbl := nt_t3 71 rfl rfl
theorem wd_401 : Cond.methodLink RL 48 yX8_text ∈ nt_tbl := nt_t3 73 rfl rfl
theorem wd_402 : Cond.instanceMethod yX8_text ∈ nt_tbl := nt_t3 74 rfl rfl
theorem wd_403 : Cond.selects RX8 yX8_text yX8_text ∈ nt_tbl := nt_t3 75 rfl rfl
theorem wd_404 : Cond.code yX8_text prog_1_method_10_code 2 (Option.some Jvm.ClassFile.FieldType.int) ∈ nt_tbl := nt_t3 76 rfl rfl
theorem wd_405 : Cond.instanceMethod yX1_place ∈ nt_tbl := nt_t3 80 rfl rfl
theorem wd_406 : Cond.code yX1_place prog_3_method_5_code 1 (Option.some Jvm.ClassFile.FieldType.int) ∈ nt_tbl := nt_t3 81 rfl rfl
theorem wd_407 : Cond.methodLink RL 53 yX8_force ∈ nt_tbl := nt_t3 82 rfl rfl
theorem wd_408 : Cond.instanceMethod yX8_force ∈ nt_tbl := nt_t3 83 rfl rfl
theorem wd_409 : Cond.selects RX8 yX8_force yX8_force ∈ nt_tbl := nt_t3 84 rfl rfl
theorem wd_410 : Cond.code yX8_force prog_1_method_11_code 3 (Option.some Jvm.ClassFile.FieldType.int) ∈ nt_tbl := nt_t3 85 rfl rfl
theorem wd_411 : Cond.instanceMethod yX7_has ∈ nt_tbl := nt_t3 88 rfl rfl
theorem wd_412 : Cond.code yX7_has prog_9_method_2_code 2 (Option.some Jvm.ClassFile.FieldType.boolean) ∈ nt_tbl := nt_t3 89 rfl rfl
theorem wd_413 : Cond.methodLink RL 57 yX8_may ∈ nt_tbl := nt_t3 91 rfl rfl
theorem wd_414 : Cond.instanceMethod yX8_may ∈ nt_tbl := nt_t3 92 rfl rfl
theorem wd_415 : Cond.selects RX8 yX8_may yX8_may ∈ nt_tbl := nt_t3 93 rfl rfl
theorem wd_416 : Cond.code yX8_may prog_1_method_12_code 2 (Option.some Jvm.ClassFile.FieldType.int) ∈ nt_tbl := nt_t3 94 rfl rfl
theorem wd_417 : Cond.instanceMethod yX0_tellableIn ∈ nt_tbl := nt_t3 97 rfl rfl
theorem wd_418 : Cond.code yX0_tellableIn prog_2_method_14_code 4 (Option.some Jvm.ClassFile.FieldType.int) ∈ nt_tbl := nt_t3 98 rfl rfl
theorem wd_419 : Cond.methodLink RX0 96 yX0_lookInto ∈ nt_tbl := nt_t3 99 rfl rfl
theorem wd_420 : Cond.instanceMethod yX0_lookInto ∈ nt_tbl := nt_t3 101 rfl rfl
theorem wd_421 : Cond.code yX0_lookInto prog_2_method_10_code 3 (Option.none : Option Jvm.ClassFile.FieldType) ∈ nt_tbl := nt_t3 102 rfl rfl
theorem wd_422 : Cond.methodLink RX0 81 yX0_knows ∈ nt_tbl := nt_t3 103 rfl rfl
theorem wd_423 : Cond.methodLink RX0 100 yX0_tellableOf ∈ nt_tbl := nt_t3 104 rfl rfl
theorem wd_424 : Cond.instanceMethod yX0_tellableOf ∈ nt_tbl := nt_t3 106 rfl rfl
theorem wd_425 : Cond.code yX0_tellableOf prog_2_method_12_code 5 (Option.some Jvm.ClassFile.FieldType.int) ∈ nt_tbl := nt_t3 107 rfl rfl
theorem wd_426 : Cond.methodLink RX0 88 yX0_newToOthers ∈ nt_tbl := nt_t3 108 rfl rfl
theorem wd_427 : Cond.instanceMethod yX0_newToOthers ∈ nt_tbl := nt_t3 110 rfl rfl
theorem wd_428 : Cond.code yX0_newToOthers prog_2_method_11_code 2 (Option.some Jvm.ClassFile.FieldType.int) ∈ nt_tbl := nt_t3 111 rfl rfl
theorem wd_429 : Cond.instanceMethod yX5_all ∈ nt_tbl := nt_t3 114 rfl rfl
theorem wd_430 : Cond.code yX5_all prog_7_method_3_code 1 (Option.some Jvm.ClassFile.FieldType.int) ∈ nt_tbl := nt_t3 115 rfl rfl
theorem wd_431 : Cond.methodLink RX0 92 yX0_value ∈ nt_tbl := nt_t3 116 rfl rfl
theorem wd_432 : Cond.instanceMethod yX0_value ∈ nt_tbl := nt_t3 118 rfl rfl
theorem wd_433 : Cond.code yX0_value prog_2_method_23_code 7 (Option.some Jvm.ClassFile.FieldType.int) ∈ nt_tbl := nt_t3 119 rfl rfl
theorem wd_434 : Cond.instanceMethod yX7_at ∈ nt_tbl := nt_t3 122 rfl rfl
theorem wd_435 : Cond.code yX7_at prog_9_method_3_code 2 (Option.some (Jvm.ClassFile.FieldType.object "NotTwice$Rule")) ∈ nt_tbl := nt_t3 123 rfl rfl
theorem wd_436 : Cond.methodLink RX0 143 yJ6_bitCount_0f7a4 ∈ nt_tbl := nt_t3 125 rfl rfl
theorem wd_437 : Cond.static yJ6_bitCount_0f7a4 ∈ nt_tbl := nt_t3 126 rfl rfl
theorem wd_438 : Cond.code yJ6_bitCount_0f7a4 prog_13_method_49_code 1 (Option.some Jvm.ClassFile.FieldType.int) ∈ nt_tbl := nt_t3 127 rfl rfl
theorem wd_439 : Cond.constant RJ6 265 (1431655765 : Int32) ∈ nt_tbl := nt_t3 128 rfl rfl
theorem wd_440 : Cond.constant RJ6 266 (858993459 : Int32) ∈ nt_tbl := nt_t3 129 rfl rfl
theorem wd_441 : Cond.constant RJ6 267 (252645135 : Int32) ∈ nt_tbl := nt_t3 130 rfl rfl
theorem wd_442 : Cond.instanceMethod yX2_value ∈ nt_tbl := nt_t3 133 rfl rfl
theorem wd_443 : Cond.code yX2_value prog_4_method_2_code 10 (Option.some Jvm.ClassFile.FieldType.int) ∈ nt_tbl := nt_t3 134 rfl rfl
theorem wd_444 : Cond.methodLink RX2 30 yX2_joined ∈ nt_tbl := nt_t3 135 rfl rfl
theorem wd_445 : Cond.static yX2_joined ∈ nt_tbl := nt_t3 136 rfl rfl
theorem wd_446 : Cond.code yX2_joined prog_4_method_3_code 3 (Option.some Jvm.ClassFile.FieldType.int) ∈ nt_tbl := nt_t3 137 rfl rfl
theorem wd_447 : Cond.methodLink RL 61 yX8_by ∈ nt_tbl := nt_t3 138 rfl rfl
theorem wd_448 : Cond.instanceMethod yX8_by ∈ nt_tbl := nt_t3 139 rfl rfl
theorem wd_449 : Cond.selects RX8 yX8_by yX8_by ∈ nt_tbl := nt_t3 140 rfl rfl
theorem wd_450 : Cond.code yX8_by prog_1_method_13_code 3 (Option.some Jvm.ClassFile.FieldType.int) ∈ nt_tbl := nt_t3 141 rfl rfl
theorem wd_451 : Cond.instanceMethod yX0_byWhom ∈ nt_tbl := nt_t3 144 rfl rfl
theorem wd_452 : Cond.code yX0_byWhom prog_2_method_16_code 3 (Option.some Jvm.ClassFile.FieldType.int) ∈ nt_tbl := nt_t3 145 rfl rfl
theorem wd_453 : Cond.methodLink RX0 104 yX0_firstTeller ∈ nt_tbl := nt_t3 146 rfl rfl
theorem wd_454 : Cond.instanceMethod yX0_firstTeller ∈ nt_tbl := nt_t3 148 rfl rfl
theorem wd_455 : Cond.code yX0_firstTeller prog_2_method_17_code 4 (Option.some Jvm.ClassFile.FieldType.int) ∈ nt_tbl := nt_t3 149 rfl rfl
theorem wd_456 : Cond.methodLink RL 65 yX8_worth ∈ nt_tbl := nt_t3 150 rfl rfl
theorem wd_457 : Cond.instanceMethod yX8_worth ∈ nt_tbl := nt_t3 151 rfl rfl
theorem wd_458 : Cond.selects RX8 yX8_worth yX8_worth ∈ nt_tbl := nt_t3 152 rfl rfl
theorem wd_459 : Cond.code yX8_worth prog_1_method_14_code 3 (Option.some Jvm.ClassFile.FieldType.long) ∈ nt_tbl := nt_t3 153 rfl rfl
theorem wd_460 : Cond.instanceMethod yX0_worthOf ∈ nt_tbl := nt_t3 156 rfl rfl
theorem wd_461 : Cond.code yX0_worthOf prog_2_method_18_code 4 (Option.some Jvm.ClassFile.FieldType.long) ∈ nt_tbl := nt_t3 157 rfl rfl
theorem wd_462 : Cond.constantLong RX0 107 (-4611686018427387904 : Int64) ∈ nt_tbl := nt_t3 158 rfl rfl
theorem wd_463 : Cond.methodLink RX0 109 yX0_worthBy ∈ nt_tbl := nt_t3 159 rfl rfl
theorem wd_464 : Cond.instanceMethod yX0_worthBy ∈ nt_tbl := nt_t3 161 rfl rfl
theorem wd_465 : Cond.code yX0_worthBy prog_2_method_19_code 5 (Option.some Jvm.ClassFile.FieldType.long) ∈ nt_tbl := nt_t3 162 rfl rfl
theorem wd_466 : Cond.methodLink RX0 113 yX0_bounded ∈ nt_tbl := nt_t3 163 rfl rfl
theorem wd_467 : Cond.static yX0_bounded ∈ nt_tbl := nt_t3 164 rfl rfl
theorem wd_468 : Cond.code yX0_bounded prog_2_method_24_code 2 (Option.some Jvm.ClassFile.FieldType.int) ∈ nt_tbl := nt_t3 165 rfl rfl
theorem wd_469 : Cond.methodLink RX0 120 Lib.Math.min.name ∈ nt_tbl := nt_t3 166 rfl rfl
theorem wd_470 : Cond.methodLink RX0 156 Lib.Math.max.name ∈ nt_tbl := nt_t3 167 rfl rfl
theorem wd_471 : Cond.constantLong RX8 171 (-4611686018427387904 : Int64) ∈ nt_tbl := nt_t3 168 rfl rfl
theorem wd_472 : Cond.methodLink RL 70 yX8_most ∈ nt_tbl := nt_t3 169 rfl rfl
theorem wd_473 : Cond.instanceMethod yX8_most ∈ nt_tbl := nt_t3 170 rfl rfl
theorem wd_474 : Cond.selects RX8 yX8_most yX8_most ∈ nt_tbl := nt_t3 171 rfl rfl
theorem wd_475 : Cond.code yX8_most prog_1_method_15_code 4 (Option.some Jvm.ClassFile.FieldType.long) ∈ nt_tbl := nt_t3 172 rfl rfl
theorem wd_476 : Cond.instanceMethod yX0_bestOf ∈ nt_tbl := nt_t3 175 rfl rfl
theorem wd_477 : Cond.code yX0_bestOf prog_2_method_20_code 9 (Option.some Jvm.ClassFile.FieldType.int) ∈ nt_tbl := nt_t3 176 rfl rfl
theorem wd_478 : Cond.methodLink RL 74 yX8_tell ∈ nt_tbl := nt_t3 177 rfl rfl
theorem wd_479 : Cond.instanceMethod yX8_tell ∈ nt_tbl := nt_t3 178 rfl rfl
theorem wd_480 : Cond.selects RX8 yX8_tell yX8_tell ∈ nt_tbl := nt_t3 179 rfl rfl
theorem wd_481 : Cond.code yX8_tell prog_1_method_16_code 3 (Option.some Jvm.ClassFile.FieldType.int) ∈ nt_tbl := nt_t3 180 rfl rfl
theorem wd_482 : Cond.instanceMethod yX0_spend ∈ nt_tbl := nt_t3 183 rfl rfl
theorem wd_483 : Cond.code yX0_spend prog_2_method_21_code 5 (Option.some Jvm.ClassFile.FieldType.int) ∈ nt_tbl := nt_t3 184 rfl rfl
theorem wd_484 : Cond.methodLink RX0 116 yX0_hear ∈ nt_tbl := nt_t3 185 rfl rfl
theorem wd_485 : Cond.methodLink RL 78 yX8_pass ∈ nt_tbl := nt_t3 186 rfl rfl
theorem wd_486 : Cond.instanceMethod yX8_pass ∈ nt_tbl := nt_t3 187 rfl rfl
theorem wd_487 : Cond.selects RX8 yX8_pass yX8_pass ∈ nt_tbl := nt_t3 188 rfl rfl
theorem wd_488 : Cond.code yX8_pass prog_1_method_17_code 1 (Option.some Jvm.ClassFile.FieldType.int) ∈ nt_tbl := nt_t3 189 rfl rfl
theorem wd_489 : Cond.instanceMethod yX0_sleep ∈ nt_tbl := nt_t3 192 rfl rfl
theorem wd_490 : Cond.code yX0_sleep prog_2_method_22_code 4 (Option.none : Option Jvm.ClassFile.FieldType) ∈ nt_tbl := nt_t3 193 rfl rfl
theorem wd_491 : Cond.methodLink RX0 128 yX0_forget ∈ nt_tbl := nt_t3 195 rfl rfl
theorem wd_492 : Cond.methodLink RL 82 yX8_goesOn ∈ nt_tbl := nt_t3 196 rfl rfl
theorem wd_493 : Cond.instanceMethod yX8_goesOn ∈ nt_tbl := nt_t3 197 rfl rfl
theorem wd_494 : Cond.selects RX8 yX8_goesOn yX8_goesOn ∈ nt_tbl := nt_t3 198 rfl rfl
theorem wd_495 : Cond.code yX8_goesOn prog_1_method_18_code 6 (Option.some Jvm.ClassFile.FieldType.int) ∈ nt_tbl := nt_t3 199 rfl rfl
theorem wd_496 : Cond.instanceMethod yX0_unheardIn ∈ nt_tbl := nt_t3 202 rfl rfl
theorem wd_497 : Cond.code yX0_unheardIn prog_2_method_15_code 4 (Option.some Jvm.ClassFile.FieldType.int) ∈ nt_tbl := nt_t3 203 rfl rfl
theorem wd_498 : Cond.methodLink RX8 188 yJ6_bitCount_0f7a4 ∈ nt_tbl := nt_t3 204 rfl rfl
theorem wd_499 : Cond.methodLink RX8 193 yX8_canTellAll ∈ nt_tbl := nt_t3 205 rfl rfl
theorem wd_500 : Cond.instanceMethod yX8_canTellAll ∈ nt_tbl := nt_t3 207 rfl rfl
theorem wd_501 : Cond.code yX8_canTellAll prog_1_method_37_code 4 (Option.some Jvm.ClassFile.FieldType.boolean) ∈ nt_tbl := nt_t3 208 rfl rfl
theorem wd_502 : Cond.instanceMethod yX0_takeAll ∈ nt_tbl := nt_t3 211 rfl rfl
theorem wd_503 : Cond.code yX0_takeAll prog_2_method_5_code 2 (Option.none : Option Jvm.ClassFile.FieldType) ∈ nt_tbl := nt_t3 212 rfl rfl
theorem wd_504 : Cond.methodLink RX0 50 arraycopyName ∈ nt_tbl := nt_t3 213 rfl rfl
theorem wd_505 : Cond.methodLink RX0 56 yX0_goBackTo ∈ nt_tbl := nt_t3 214 rfl rfl
theorem wd_506 : Cond.instanceMethod yX0_goBackTo ∈ nt_tbl := nt_t3 216 rfl rfl
theorem wd_507 : Cond.code yX0_goBackTo prog_2_method_6_code 2 (Option.none : Option Jvm.ClassFile.FieldType) ∈ nt_tbl := nt_t3 217 rfl rfl
theorem wd_508 : Cond.methodLink RL 86 yX8_spread ∈ nt_tbl := nt_t3 218 rfl rfl
theorem wd_509 : Cond.instanceMethod yX8_spread ∈ nt_tbl := nt_t3 219 rfl rfl
theorem wd_510 : Cond.selects RX8 yX8_spread yX8_spread ∈ nt_tbl := nt_t3 220 rfl rfl
theorem wd_511 : Cond.code yX8_spread prog_1_method_19_code 3 (Option.some Jvm.ClassFile.FieldType.int) ∈ nt_tbl := nt_t3 221 rfl rfl
theorem wd_512 : Cond.instanceMethod yX3_waysOver ∈ nt_tbl := nt_t3 224 rfl rfl
theorem wd_513 : Cond.code yX3_waysOver prog_5_method_2_code 4 (Option.some Jvm.ClassFile.FieldType.int) ∈ nt_tbl := nt_t3 225 rfl rfl
theorem wd_514 : Cond.instanceMethod yX3_search ∈ nt_tbl := nt_t3 228 rfl rfl
theorem wd_515 : Cond.code yX3_search prog_5_method_3_code 6 (Option.none : Option Jvm.ClassFile.FieldType) ∈ nt_tbl := nt_t3 229 rfl rfl
theorem wd_516 : Cond.methodLink RX3 43 yX3_prepare ∈ nt_tbl := nt_t3 230 rfl rfl
theorem wd_517 : Cond.instanceMethod yX3_prepare ∈ nt_tbl := nt_t3 232 rfl rfl
theorem wd_518 : Cond.code yX3_prepare prog_5_method_4_code 3 (Option.none : Option Jvm.ClassFile.FieldType) ∈ nt_tbl := nt_t3 233 rfl rfl
theorem wd_519 : Cond.methodLink RX3 75 yX3_awakeOf ∈ nt_tbl := nt_t3 235 rfl rfl
theorem wd_520 : Cond.instanceMethod yX3_awakeOf ∈ nt_tbl := nt_t3 237 rfl rfl
theorem wd_521 : Cond.code yX3_awakeOf prog_5_method_5_code 5 (Option.some Jvm.ClassFile.FieldType.int) ∈ nt_tbl := nt_t3 238 rfl rfl
theorem wd_522 : Cond.methodLink RX3 49 yX3_waysOver ∈ nt_tbl := nt_t4 1 rfl rfl
theorem wd_523 : Cond.methodLink RX3 53 Lib.Math.min.name ∈ nt_tbl := nt_t4 2 rfl rfl
theorem wd_524 : Cond.methodLink RX3 59 yX3_housesWithStory ∈ nt_tbl := nt_t4 3 rfl rfl
theorem wd_525 : Cond.instanceMethod yX3_housesWithStory ∈ nt_tbl := nt_t4 5 rfl rfl
theorem wd_526 : Cond.code yX3_housesWithStory prog_5_method_7_code 6 (Option.some Jvm.ClassFile.FieldType.int) ∈ nt_tbl := nt_t4 6 rfl rfl
theorem wd_527 : Cond.methodLink RX3 96 yX3_fillHouses ∈ nt_tbl := nt_t4 7 rfl rfl
theorem wd_528 : Cond.instanceMethod yX3_fillHouses ∈ nt_tbl := nt_t4 9 rfl rfl
theorem wd_529 : Cond.code yX3_fillHouses prog_5_method_8_code 4 (Option.none : Option Jvm.ClassFile.FieldType) ∈ nt_tbl := nt_t4 10 rfl rfl
theorem wd_530 : Cond.methodLink RX3 99 yJ6_bitCount_0f7a4 ∈ nt_tbl := nt_t4 11 rfl rfl
theorem wd_531 : Cond.methodLink RX3 62 arraycopyName ∈ nt_tbl := nt_t4 12 rfl rfl
theorem wd_532 : Cond.methodLink RX3 68 yX3_nextWay ∈ nt_tbl := nt_t4 13 rfl rfl
theorem wd_533 : Cond.instanceMethod yX3_nextWay ∈ nt_tbl := nt_t4 15 rfl rfl
theorem wd_534 : Cond.code yX3_nextWay prog_5_method_6_code 3 (Option.none : Option Jvm.ClassFile.FieldType) ∈ nt_tbl := nt_t4 16 rfl rfl
theorem wd_535 : Cond.methodLink RL 90 yX8_keepAway ∈ nt_tbl := nt_t4 17 rfl rfl
theorem wd_536 : Cond.instanceMethod yX8_keepAway ∈ nt_tbl := nt_t4 18 rfl rfl
theorem wd_537 : Cond.selects RX8 yX8_keepAway yX8_keepAway ∈ nt_tbl := nt_t4 19 rfl rfl
theorem wd_538 : Cond.code yX8_keepAway prog_1_method_20_code 6 (Option.some Jvm.ClassFile.FieldType.int) ∈ nt_tbl := nt_t4 20 rfl rfl
theorem wd_539 : Cond.methodLink RL 94 yX8_send ∈ nt_tbl := nt_t4 21 rfl rfl
theorem wd_540 : Cond.instanceMethod yX8_send ∈ nt_tbl := nt_t4 22 rfl rfl
theorem wd_541 : Cond.selects RX8 yX8_send yX8_send ∈ nt_tbl := nt_t4 23 rfl rfl
theorem wd_542 : Cond.code yX8_send prog_1_method_21_code 7 (Option.some Jvm.ClassFile.FieldType.int) ∈ nt_tbl := nt_t4 24 rfl rfl
theorem wd_543 : Cond.instanceMethod yX0_tellableBy ∈ nt_tbl := nt_t4 27 rfl rfl
theorem wd_544 : Cond.code yX0_tellableBy prog_2_method_13_code 2 (Option.some Jvm.ClassFile.FieldType.int) ∈ nt_tbl := nt_t4 28 rfl rfl
theorem wd_545 : Cond.methodLink RL 98 yX8_stranger ∈ nt_tbl := nt_t4 29 rfl rfl
theorem wd_546 : Cond.instanceMethod yX8_stranger ∈ nt_tbl := nt_t4 30 rfl rfl
theorem wd_547 : Cond.selects RX8 yX8_stranger yX8_stranger ∈ nt_tbl := nt_t4 31 rfl rfl
theorem wd_548 : Cond.code yX8_stranger prog_1_method_22_code 4 (Option.some Jvm.ClassFile.FieldType.int) ∈ nt_tbl := nt_t4 32 rfl rfl
theorem wd_549 : Cond.methodLink RL 102 yX8_left ∈ nt_tbl := nt_t4 34 rfl rfl
theorem wd_550 : Cond.instanceMethod yX8_left ∈ nt_tbl := nt_t4 35 rfl rfl
theorem wd_551 : Cond.selects RX8 yX8_left yX8_left ∈ nt_tbl := nt_t4 36 rfl rfl
theorem wd_552 : Cond.code yX8_left prog_1_method_23_code 3 (Option.some Jvm.ClassFile.FieldType.int) ∈ nt_tbl := nt_t4 37 rfl rfl
theorem wd_553 : Cond.methodLink RL 106 yX8_judge ∈ nt_tbl := nt_t4 39 rfl rfl
theorem wd_554 : Cond.instanceMethod yX8_judge ∈ nt_tbl := nt_t4 40 rfl rfl
theorem wd_555 : Cond.selects RX8 yX8_judge yX8_judge ∈ nt_tbl := nt_t4 41 rfl rfl
theorem wd_556 : Cond.code yX8_judge prog_1_method_24_code 5 (Option.some Jvm.ClassFile.FieldType.int) ∈ nt_tbl := nt_t4 42 rfl rfl
theorem wd_557 : Cond.instanceMethod yX4_has ∈ nt_tbl := nt_t4 45 rfl rfl
theorem wd_558 : Cond.code yX4_has prog_6_method_2_code 2 (Option.some Jvm.ClassFile.FieldType.boolean) ∈ nt_tbl := nt_t4 46 rfl rfl
theorem wd_559 : Cond.instanceMethod yX4_isMissing ∈ nt_tbl := nt_t4 50 rfl rfl
theorem wd_560 : Cond.code yX4_isMissing prog_6_method_3_code 2 (Option.some Jvm.ClassFile.FieldType.boolean) ∈ nt_tbl := nt_t4 51 rfl rfl
theorem wd_561 : Cond.instanceMethod yX4_at ∈ nt_tbl := nt_t4 54 rfl rfl
theorem wd_562 : Cond.code yX4_at prog_6_method_7_code 3 (Option.some Jvm.ClassFile.FieldType.int) ∈ nt_tbl := nt_t4 55 rfl rfl
theorem wd_563 : Cond.methodLink RL 110 yX8_drawn ∈ nt_tbl := nt_t4 56 rfl rfl
theorem wd_564 : Cond.instanceMethod yX8_drawn ∈ nt_tbl := nt_t4 57 rfl rfl
theorem wd_565 : Cond.selects RX8 yX8_drawn yX8_drawn ∈ nt_tbl := nt_t4 58 rfl rfl
theorem wd_566 : Cond.code yX8_drawn prog_1_method_25_code 8 (Option.some Jvm.ClassFile.FieldType.int) ∈ nt_tbl := nt_t4 59 rfl rfl
theorem wd_567 : Cond.constant RX8 234 (1103515245 : Int32) ∈ nt_tbl := nt_t4 60 rfl rfl
theorem wd_568 : Cond.methodLink RL 114 yX8_image ∈ nt_tbl := nt_t4 61 rfl rfl
theorem wd_569 : Cond.instanceMethod yX8_image ∈ nt_tbl := nt_t4 62 rfl rfl
theorem wd_570 : Cond.selects RX8 yX8_image yX8_image ∈ nt_tbl := nt_t4 63 rfl rfl
theorem wd_571 : Cond.code yX8_image prog_1_method_26_code 1 (Option.some Jvm.ClassFile.FieldType.int) ∈ nt_tbl := nt_t4 64 rfl rfl
theorem wd_572 : Cond.methodLink RL 118 yX8_back ∈ nt_tbl := nt_t4 65 rfl rfl
theorem wd_573 : Cond.instanceMethod yX8_back ∈ nt_tbl := nt_t4 66 rfl rfl
theorem wd_574 : Cond.selects RX8 yX8_back yX8_back ∈ nt_tbl := nt_t4 67 rfl rfl
theorem wd_575 : Cond.code yX8_back prog_1_method_27_code 1 (Option.some Jvm.ClassFile.FieldType.int) ∈ nt_tbl := nt_t4 68 rfl rfl
theorem wd_576 : Cond.methodLink RL 122 yX8_count ∈ nt_tbl := nt_t4 70 rfl rfl
theorem wd_577 : Cond.instanceMethod yX8_count ∈ nt_tbl := nt_t4 71 rfl rfl
theorem wd_578 : Cond.selects RX8 yX8_count yX8_count ∈ nt_tbl := nt_t4 72 rfl rfl
theorem wd_579 : Cond.code yX8_count prog_1_method_28_code 2 (Option.some Jvm.ClassFile.FieldType.int) ∈ nt_tbl := nt_t4 73 rfl rfl
theorem wd_580 : Cond.methodLink RL 126 yX8_sheet ∈ nt_tbl := nt_t4 74 rfl rfl
theorem wd_581 : Cond.instanceMethod yX8_sheet ∈ nt_tbl := nt_t4 75 rfl rfl
theorem wd_582 : Cond.selects RX8 yX8_sheet yX8_sheet ∈ nt_tbl := nt_t4 76 rfl rfl
theorem wd_583 : Cond.code yX8_sheet prog_1_method_29_code 4 (Option.some Jvm.ClassFile.FieldType.int) ∈ nt_tbl := nt_t4 77 rfl rfl
theorem wd_584 : Cond.instanceMethod yX4_lay ∈ nt_tbl := nt_t4 80 rfl rfl
theorem wd_585 : Cond.code yX4_lay prog_6_method_6_code 5 (Option.none : Option Jvm.ClassFile.FieldType) ∈ nt_tbl := nt_t4 81 rfl rfl
theorem wd_586 : Cond.methodLink RL 130 yX8_cell ∈ nt_tbl := nt_t4 82 rfl rfl
theorem wd_587 : Cond.instanceMethod yX8_cell ∈ nt_tbl := nt_t4 83 rfl rfl
theorem wd_588 : Cond.selects RX8 yX8_cell yX8_cell ∈ nt_tbl := nt_t4 84 rfl rfl
theorem wd_589 : Cond.code yX8_cell prog_1_method_30_code 4 (Option.some Jvm.ClassFile.FieldType.int) ∈ nt_tbl := nt_t4 85 rfl rfl
theorem wd_590 : Cond.instanceMethod yX4_reaches ∈ nt_tbl := nt_t4 88 rfl rfl
theorem wd_591 : Cond.code yX4_reaches prog_6_method_4_code 3 (Option.some Jvm.ClassFile.FieldType.boolean) ∈ nt_tbl := nt_t4 89 rfl rfl
theorem wd_592 : Cond.instanceMethod yX4_write ∈ nt_tbl := nt_t4 92 rfl rfl
theorem wd_593 : Cond.code yX4_write prog_6_method_8_code 5 (Option.none : Option Jvm.ClassFile.FieldType) ∈ nt_tbl := nt_t4 93 rfl rfl
theorem wd_594 : Cond.methodLink RL 134 yX8_copy ∈ nt_tbl := nt_t4 94 rfl rfl
theorem wd_595 : Cond.instanceMethod yX8_copy ∈ nt_tbl := nt_t4 95 rfl rfl
theorem wd_596 : Cond.selects RX8 yX8_copy yX8_copy ∈ nt_tbl := nt_t4 96 rfl rfl
theorem wd_597 : Cond.code yX8_copy prog_1_method_31_code 6 (Option.some Jvm.ClassFile.FieldType.int) ∈ nt_tbl := nt_t4 97 rfl rfl
theorem wd_598 : Cond.instanceMethod yX4_hasRun ∈ nt_tbl := nt_t4 100 rfl rfl
theorem wd_599 : Cond.code yX4_hasRun prog_6_method_5_code 4 (Option.some Jvm.ClassFile.FieldType.boolean) ∈ nt_tbl := nt_t4 101 rfl rfl
theorem wd_600 : Cond.instanceMethod yX4_carry ∈ nt_tbl := nt_t4 104 rfl rfl
theorem wd_601 : Cond.code yX4_carry prog_6_method_9_code 6 (Option.none : Option Jvm.ClassFile.FieldType) ∈ nt_tbl := nt_t4 105 rfl rfl
theorem wd_602 : Cond.methodLink RX4 25 arraycopyName ∈ nt_tbl := nt_t4 106 rfl rfl
theorem wd_603 : Cond.methodLink RL 139 yX8_people ∈ nt_tbl := nt_t4 107 rfl rfl
theorem wd_604 : Cond.instanceMethod yX8_people ∈ nt_tbl := nt_t4 108 rfl rfl
theorem wd_605 : Cond.selects RX8 yX8_people yX8_people ∈ nt_tbl := nt_t4 109 rfl rfl
theorem wd_606 : Cond.code yX8_people prog_1_method_32_code 8 (Option.some Jvm.ClassFile.FieldType.int) ∈ nt_tbl := nt_t4 110 rfl rfl
theorem wd_607 : Cond.methodLink RL 144 yX8_taken ∈ nt_tbl := nt_t4 111 rfl rfl
theorem wd_608 : Cond.instanceMethod yX8_taken ∈ nt_tbl := nt_t4 112 rfl rfl
theorem wd_609 : Cond.selects RX8 yX8_taken yX8_taken ∈ nt_tbl := nt_t4 113 rfl rfl
theorem wd_610 : Cond.code yX8_taken prog_1_method_33_code 3 (Option.some Jvm.ClassFile.FieldType.int) ∈ nt_tbl := nt_t4 114 rfl rfl
theorem wd_611 : Cond.instanceMethod yX5_isUnder ∈ nt_tbl := nt_t4 117 rfl rfl
theorem wd_612 : Cond.code yX5_isUnder prog_7_method_10_code 5 (Option.some Jvm.ClassFile.FieldType.boolean) ∈ nt_tbl := nt_t4 118 rfl rfl
theorem wd_613 : Cond.fieldLink RX5 46 "NotTwice$Shelf" "UNDER" "[I" ∈ nt_tbl := nt_t4 119 rfl rfl
theorem wd_614 : Cond.classLink RL 10 "NotTwiceModel" ∈ nt_tbl := nt_t4 121 rfl rfl
theorem wd_615 : Cond.instantiable RX9 51 ∈ nt_tbl := nt_t4 122 rfl rfl
theorem wd_616 : Cond.methodLink RL 12 yX9_init ∈ nt_tbl := nt_t4 123 rfl rfl
theorem wd_617 : Cond.instanceMethod yX9_init ∈ nt_tbl := nt_t4 124 rfl rfl
theorem wd_618 : Cond.code yX9_init prog_11_method_5_code 1 (Option.none : Option Jvm.ClassFile.FieldType) ∈ nt_tbl := nt_t4 125 rfl rfl
theorem wd_619 : Cond.methodLink RX9 7 objectInit ∈ nt_tbl := nt_t4 126 rfl rfl
theorem wd_620 : Cond.methodLink RX9 90 yX9_spell ∈ nt_tbl := nt_t4 127 rfl rfl
theorem wd_621 : Cond.instanceMethod yX9_spell ∈ nt_tbl := nt_t4 129 rfl rfl
theorem wd_622 : Cond.code yX9_spell prog_11_method_6_code 10 (Option.none : Option Jvm.ClassFile.FieldType) ∈ nt_tbl := nt_t4 130 rfl rfl
theorem wd_623 : Cond.fieldLink RX9 13 "NotTwiceModel" "texts" "[I" ∈ nt_tbl := nt_t4 131 rfl rfl
theorem wd_624 : Cond.fieldLink RX9 17 "NotTwiceModel" "textSize" "[I" ∈ nt_tbl := nt_t4 132 rfl rfl
theorem wd_625 : Cond.fieldLink RX9 94 "NotTwiceModel" "textCount" "I" ∈ nt_tbl := nt_t4 133 rfl rfl
theorem wd_626 : Cond.fieldLink RX9 265 "NotTwiceModel" "rule" "I" ∈ nt_tbl := nt_t4 134 rfl rfl
theorem wd_627 : Cond.fieldLink RX9 20 "NotTwiceModel" "tape" "[I" ∈ nt_tbl := nt_t4 135 rfl rfl
theorem wd_628 : Cond.fieldLink RX9 148 "NotTwiceModel" "taped" "I" ∈ nt_tbl := nt_t4 136 rfl rfl
theorem wd_629 : Cond.fieldLink RX9 23 "NotTwiceModel" "kinds" "[I" ∈ nt_tbl := nt_t4 137 rfl rfl
theorem wd_630 : Cond.fieldLink RX9 26 "NotTwiceModel" "worths" "[I" ∈ nt_tbl := nt_t4 138 rfl rfl
theorem wd_631 : Cond.fieldLink RX9 29 "NotTwiceModel" "numbers" "[I" ∈ nt_tbl := nt_t4 139 rfl rfl
theorem wd_632 : Cond.fieldLink RX9 32 "NotTwiceModel" "twins" "[I" ∈ nt_tbl := nt_t4 140 rfl rfl
theorem wd_633 : Cond.fieldLink RX9 97 "NotTwiceModel" "storyMany" "I" ∈ nt_tbl := nt_t4 141 rfl rfl
theorem wd_634 : Cond.fieldLink RX9 35 "NotTwiceModel" "ages" "[I" ∈ nt_tbl := nt_t4 142 rfl rfl
theorem wd_635 : Cond.fieldLink RX9 38 "NotTwiceModel" "tells" "[I" ∈ nt_tbl := nt_t4 143 rfl rfl
theorem wd_636 : Cond.fieldLink RX9 41 "NotTwiceModel" "heard" "[I" ∈ nt_tbl := nt_t4 144 rfl rfl
theorem wd_637 : Cond.fieldLink RX9 44 "NotTwiceModel" "houses" "[I" ∈ nt_tbl := nt_t4 145 rfl rfl
theorem wd_638 : Cond.fieldLink RX9 47 "NotTwiceModel" "since" "[I" ∈ nt_tbl := nt_t4 146 rfl rfl
theorem wd_639 : Cond.fieldLink RX9 104 "NotTwiceModel" "many" "I" ∈ nt_tbl := nt_t4 147 rfl rfl
theorem wd_640 : Cond.fieldLink RX9 132 "NotTwiceModel" "night" "I" ∈ nt_tbl := nt_t4 148 rfl rfl
theorem wd_641 : Cond.fieldLink RX9 207 "NotTwiceModel" "ofAge" "I" ∈ nt_tbl := nt_t4 149 rfl rfl
theorem wd_642 : Cond.fieldLink RX9 210 "NotTwiceModel" "ofWorth" "I" ∈ nt_tbl := nt_t4 150 rfl rfl
theorem wd_643 : Cond.fieldLink RX9 213 "NotTwiceModel" "ofHeard" "I" ∈ nt_tbl := nt_t4 151 rfl rfl
theorem wd_644 : Cond.fieldLink RX9 216 "NotTwiceModel" "ofMany" "I" ∈ nt_tbl := nt_t4 152 rfl rfl
theorem wd_645 : Cond.fieldLink RX9 219 "NotTwiceModel" "ofNight" "I" ∈ nt_tbl := nt_t4 153 rfl rfl
theorem wd_646 : Cond.fieldLink RX9 222 "NotTwiceModel" "ofOwn" "I" ∈ nt_tbl := nt_t4 154 rfl rfl
theorem wd_647 : Cond.fieldLink RX9 154 "NotTwiceModel" "from" "I" ∈ nt_tbl := nt_t4 155 rfl rfl
theorem wd_648 : Cond.fieldLink RX9 151 "NotTwiceModel" "size" "I" ∈ nt_tbl := nt_t4 156 rfl rfl
theorem wd_649 : Cond.fieldLink RX9 157 "NotTwiceModel" "here" "I" ∈ nt_tbl := nt_t4 157 rfl rfl
theorem wd_650 : Cond.fieldLink RX9 166 "NotTwiceModel" "token" "I" ∈ nt_tbl := nt_t4 158 rfl rfl
theorem wd_651 : Cond.fieldLink RX9 163 "NotTwiceModel" "tokenAt" "I" ∈ nt_tbl := nt_t4 159 rfl rfl
theorem wd_652 : Cond.fieldLink RX9 177 "NotTwiceModel" "tokenWorth" "J" ∈ nt_tbl := nt_t4 160 rfl rfl
theorem wd_653 : Cond.fieldLink RX9 194 "NotTwiceModel" "open" "I" ∈ nt_tbl := nt_t4 161 rfl rfl
theorem wd_654 : Cond.fieldLink RX9 183 "NotTwiceModel" "bad" "Z" ∈ nt_tbl := nt_t4 162 rfl rfl
theorem wd_655 : Cond.fieldLink RX9 187 "NotTwiceModel" "fault" "I" ∈ nt_tbl := nt_t4 163 rfl rfl
theorem wd_656 : Cond.fieldLink RX9 303 "NotTwiceModel" "bestWorth" "I" ∈ nt_tbl := nt_t4 164 rfl rfl
theorem wd_657 : Cond.fieldLink RX9 50 "NotTwiceModel" "heardWas" "[I" ∈ nt_tbl := nt_t4 165 rfl rfl
theorem wd_658 : Cond.fieldLink RX9 53 "NotTwiceModel" "housesWas" "[I" ∈ nt_tbl := nt_t4 166 rfl rfl
theorem wd_659 : Cond.fieldLink RX9 56 "NotTwiceModel" "sinceWas" "[I" ∈ nt_tbl := nt_t4 167 rfl rfl
theorem wd_660 : Cond.fieldLink RX9 312 "NotTwiceModel" "nightWas" "I" ∈ nt_tbl := nt_t4 168 rfl rfl
theorem wd_661 : Cond.fieldLink RX9 59 "NotTwiceModel" "knowersOf" "[I" ∈ nt_tbl := nt_t4 169 rfl rfl
theorem wd_662 : Cond.fieldLink RX9 62 "NotTwiceModel" "tiredOf" "[I" ∈ nt_tbl := nt_t4 170 rfl rfl
theorem wd_663 : Cond.fieldLink RX9 65 "NotTwiceModel" "heardKept" "[I" ∈ nt_tbl := nt_t4 171 rfl rfl
theorem wd_664 : Cond.fieldLink RX9 68 "NotTwiceModel" "housesKept" "[I" ∈ nt_tbl := nt_t4 172 rfl rfl
theorem wd_665 : Cond.fieldLink RX9 71 "NotTwiceModel" "sinceKept" "[I" ∈ nt_tbl := nt_t4 173 rfl rfl
theorem wd_666 : Cond.fieldLink RX9 74 "NotTwiceModel" "manyKept" "I" ∈ nt_tbl := nt_t4 174 rfl rfl
theorem wd_667 : Cond.fieldLink RX9 345 "NotTwiceModel" "nightKept" "I" ∈ nt_tbl := nt_t4 175 rfl rfl
theorem wd_668 : Cond.fieldLink RX9 348 "NotTwiceModel" "ruleKept" "I" ∈ nt_tbl := nt_t4 176 rfl rfl
theorem wd_669 : Cond.fieldLink RX9 77 "NotTwiceModel" "isThere" "[Z" ∈ nt_tbl := nt_t4 177 rfl rfl
theorem wd_670 : Cond.fieldLink RX9 81 "NotTwiceModel" "sorts" "[I" ∈ nt_tbl := nt_t4 178 rfl rfl
theorem wd_671 : Cond.fieldLink RX9 84 "NotTwiceModel" "sheetSize" "[I" ∈ nt_tbl := nt_t4 179 rfl rfl
theorem wd_672 : Cond.fieldLink RX9 87 "NotTwiceModel" "items" "[I" ∈ nt_tbl := nt_t4 180 rfl rfl
theorem wd_673 : Cond.lays "NotTwiceModel" "NotTwiceModel" "thrown" "I" ∈ nt_tbl := nt_t4 181 rfl rfl
theorem wd_674 : Cond.laysFinal "NotTwiceModel" "NotTwiceModel" "texts" "[I" ∈ nt_tbl := nt_t4 183 rfl rfl
theorem wd_675 : Cond.laysFinal "NotTwiceModel" "NotTwiceModel" "textSize" "[I" ∈ nt_tbl := nt_t4 185 rfl rfl
theorem wd_676 : Cond.lays "NotTwiceModel" "NotTwiceModel" "textCount" "I" ∈ nt_tbl := nt_t4 187 rfl rfl
theorem wd_677 : Cond.lays "NotTwiceModel" "NotTwiceModel" "rule" "I" ∈ nt_tbl := nt_t4 189 rfl rfl
theorem wd_678 : Cond.laysFinal "NotTwiceModel" "NotTwiceModel" "tape" "[I" ∈ nt_tbl := nt_t4 191 rfl rfl
theorem wd_679 : Cond.lays "NotTwiceModel" "NotTwiceModel" "taped" "I" ∈ nt_tbl := nt_t4 193 rfl rfl
theorem wd_680 : Cond.laysFinal "NotTwiceModel" "NotTwiceModel" "kinds" "[I" ∈ nt_tbl := nt_t4 195 rfl rfl
theorem wd_681 : Cond.laysFinal "NotTwiceModel" "NotTwiceModel" "worths" "[I" ∈ nt_tbl := nt_t4 197 rfl rfl
theorem wd_682 : Cond.laysFinal "NotTwiceModel" "NotTwiceModel" "numbers" "[I" ∈ nt_tbl := nt_t4 199 rfl rfl
theorem wd_683 : Cond.laysFinal "NotTwiceModel" "NotTwiceModel" "twins" "[I" ∈ nt_tbl := nt_t4 201 rfl rfl
theorem wd_684 : Cond.lays "NotTwiceModel" "NotTwiceModel" "storyMany" "I" ∈ nt_tbl := nt_t4 203 rfl rfl
theorem wd_685 : Cond.laysFinal "NotTwiceModel" "NotTwiceModel" "ages" "[I" ∈ nt_tbl := nt_t4 205 rfl rfl
theorem wd_686 : Cond.laysFinal "NotTwiceModel" "NotTwiceModel" "tells" "[I" ∈ nt_tbl := nt_t4 207 rfl rfl
theorem wd_687 : Cond.laysFinal "NotTwiceModel" "NotTwiceModel" "heard" "[I" ∈ nt_tbl := nt_t4 209 rfl rfl
theorem wd_688 : Cond.laysFinal "NotTwiceModel" "NotTwiceModel" "houses" "[I" ∈ nt_tbl := nt_t4 211 rfl rfl
theorem wd_689 : Cond.laysFinal "NotTwiceModel" "NotTwiceModel" "since" "[I" ∈ nt_tbl := nt_t4 213 rfl rfl
theorem wd_690 : Cond.lays "NotTwiceModel" "NotTwiceModel" "many" "I" ∈ nt_tbl := nt_t4 215 rfl rfl
theorem wd_691 : Cond.lays "NotTwiceModel" "NotTwiceModel" "night" "I" ∈ nt_tbl := nt_t4 217 rfl rfl
theorem wd_692 : Cond.lays "NotTwiceModel" "NotTwiceModel" "ofAge" "I" ∈ nt_tbl := nt_t4 219 rfl rfl
theorem wd_693 : Cond.lays "NotTwiceModel" "NotTwiceModel" "ofWorth" "I" ∈ nt_tbl := nt_t4 221 rfl rfl
theorem wd_694 : Cond.lays "NotTwiceModel" "NotTwiceModel" "ofHeard" "I" ∈ nt_tbl := nt_t4 223 rfl rfl
theorem wd_695 : Cond.lays "NotTwiceModel" "NotTwiceModel" "ofMany" "I" ∈ nt_tbl := nt_t4 225 rfl rfl
theorem wd_696 : Cond.lays "NotTwiceModel" "NotTwiceModel" "ofNight" "I" ∈ nt_tbl := nt_t4 227 rfl rfl
theorem wd_697 : Cond.lays "NotTwiceModel" "NotTwiceModel" "ofOwn" "I" ∈ nt_tbl := nt_t4 229 rfl rfl
theorem wd_698 : Cond.lays "NotTwiceModel" "NotTwiceModel" "from" "I" ∈ nt_tbl := nt_t4 231 rfl rfl
theorem wd_699 : Cond.lays "NotTwiceModel" "NotTwiceModel" "size" "I" ∈ nt_tbl := nt_t4 233 rfl rfl
theorem wd_700 : Cond.lays "NotTwiceModel" "NotTwiceModel" "here" "I" ∈ nt_tbl := nt_t4 235 rfl rfl
theorem wd_701 : Cond.lays "NotTwiceModel" "NotTwiceModel" "token" "I" ∈ nt_tbl := nt_t4 237 rfl rfl
theorem wd_702 : Cond.lays "NotTwiceModel" "NotTwiceModel" "tokenAt" "I" ∈ nt_tbl := nt_t4 239 rfl rfl
theorem wd_703 : Cond.lays "NotTwiceModel" "NotTwiceModel" "tokenWorth" "J" ∈ nt_tbl := nt_t5 1 rfl rfl
theorem wd_704 : Cond.lays "NotTwiceModel" "NotTwiceModel" "open" "I" ∈ nt_tbl := nt_t5 3 rfl rfl
theorem wd_705 : Cond.lays "NotTwiceModel" "NotTwiceModel" "bad" "Z" ∈ nt_tbl := nt_t5 5 rfl rfl
theorem wd_706 : Cond.lays "NotTwiceModel" "NotTwiceModel" "fault" "I" ∈ nt_tbl := nt_t5 7 rfl rfl
theorem wd_707 : Cond.lays "NotTwiceModel" "NotTwiceModel" "bestWorth" "I" ∈ nt_tbl := nt_t5 9 rfl rfl
theorem wd_708 : Cond.laysFinal "NotTwiceModel" "NotTwiceModel" "heardWas" "[I" ∈ nt_tbl := nt_t5 11 rfl rfl
theorem wd_709 : Cond.laysFinal "NotTwiceModel" "NotTwiceModel" "housesWas" "[I" ∈ nt_tbl := nt_t5 13 rfl rfl
theorem wd_710 : Cond.laysFinal "NotTwiceModel" "NotTwiceModel" "sinceWas" "[I" ∈ nt_tbl := nt_t5 15 rfl rfl
theorem wd_711 : Cond.lays "NotTwiceModel" "NotTwiceModel" "nightWas" "I" ∈ nt_tbl := nt_t5 17 rfl rfl
theorem wd_712 : Cond.laysFinal "NotTwiceModel" "NotTwiceModel" "knowersOf" "[I" ∈ nt_tbl := nt_t5 19 rfl rfl
theorem wd_713 : Cond.laysFinal "NotTwiceModel" "NotTwiceModel" "tiredOf" "[I" ∈ nt_tbl := nt_t5 21 rfl rfl
theorem wd_714 : Cond.laysFinal "NotTwiceModel" "NotTwiceModel" "heardKept" "[I" ∈ nt_tbl := nt_t5 23 rfl rfl
theorem wd_715 : Cond.laysFinal "NotTwiceModel" "NotTwiceModel" "housesKept" "[I" ∈ nt_tbl := nt_t5 25 rfl rfl
theorem wd_716 : Cond.laysFinal "NotTwiceModel" "NotTwiceModel" "sinceKept" "[I" ∈ nt_tbl := nt_t5 27 rfl rfl
theorem wd_717 : Cond.lays "NotTwiceModel" "NotTwiceModel" "manyKept" "I" ∈ nt_tbl := nt_t5 29 rfl rfl
theorem wd_718 : Cond.lays "NotTwiceModel" "NotTwiceModel" "nightKept" "I" ∈ nt_tbl := nt_t5 31 rfl rfl
theorem wd_719 : Cond.lays "NotTwiceModel" "NotTwiceModel" "ruleKept" "I" ∈ nt_tbl := nt_t5 33 rfl rfl
theorem wd_720 : Cond.laysFinal "NotTwiceModel" "NotTwiceModel" "isThere" "[Z" ∈ nt_tbl := nt_t5 35 rfl rfl
theorem wd_721 : Cond.laysFinal "NotTwiceModel" "NotTwiceModel" "sorts" "[I" ∈ nt_tbl := nt_t5 37 rfl rfl
theorem wd_722 : Cond.laysFinal "NotTwiceModel" "NotTwiceModel" "sheetSize" "[I" ∈ nt_tbl := nt_t5 39 rfl rfl
theorem wd_723 : Cond.laysFinal "NotTwiceModel" "NotTwiceModel" "items" "[I" ∈ nt_tbl := nt_t5 41 rfl rfl
theorem wd_724 : Cond.arrayClass Jvm.ClassFile.FieldType.boolean ∈ nt_tbl := nt_t5 44 rfl rfl
theorem wd_725 : Cond.methodLink RL 17 yX9_story ∈ nt_tbl := nt_t5 45 rfl rfl
theorem wd_726 : Cond.instanceMethod yX9_story ∈ nt_tbl := nt_t5 46 rfl rfl
theorem wd_727 : Cond.selects RX9 yX9_story yX9_story ∈ nt_tbl := nt_t5 47 rfl rfl
theorem wd_728 : Cond.code yX9_story prog_11_method_10_code 4 (Option.some Jvm.ClassFile.FieldType.int) ∈ nt_tbl := nt_t5 48 rfl rfl
theorem wd_729 : Cond.constantLong RX9 109 (5 : Int64) ∈ nt_tbl := nt_t5 49 rfl rfl
theorem wd_730 : Cond.methodLink RX9 100 yX9_in ∈ nt_tbl := nt_t5 50 rfl rfl
theorem wd_731 : Cond.static yX9_in ∈ nt_tbl := nt_t5 51 rfl rfl
theorem wd_732 : Cond.code yX9_in prog_11_method_2_code 6 (Option.some Jvm.ClassFile.FieldType.boolean) ∈ nt_tbl := nt_t5 52 rfl rfl
theorem wd_733 : Cond.constantLong RX9 111 (9 : Int64) ∈ nt_tbl := nt_t5 53 rfl rfl
theorem wd_734 : Cond.methodLink RL 22 yX9_twin ∈ nt_tbl := nt_t5 54 rfl rfl
theorem wd_735 : Cond.instanceMethod yX9_twin ∈ nt_tbl := nt_t5 55 rfl rfl
theorem wd_736 : Cond.selects RX9 yX9_twin yX9_twin ∈ nt_tbl := nt_t5 56 rfl rfl
theorem wd_737 : Cond.code yX9_twin prog_11_method_12_code 3 (Option.some Jvm.ClassFile.FieldType.int) ∈ nt_tbl := nt_t5 57 rfl rfl
theorem wd_738 : Cond.methodLink RX9 113 yX9_isStory ∈ nt_tbl := nt_t5 58 rfl rfl
theorem wd_739 : Cond.instanceMethod yX9_isStory ∈ nt_tbl := nt_t5 60 rfl rfl
theorem wd_740 : Cond.code yX9_isStory prog_11_method_7_code 2 (Option.some Jvm.ClassFile.FieldType.boolean) ∈ nt_tbl := nt_t5 61 rfl rfl
theorem wd_741 : Cond.methodLink RX9 117 yX9_parts ∈ nt_tbl := nt_t5 62 rfl rfl
theorem wd_742 : Cond.instanceMethod yX9_parts ∈ nt_tbl := nt_t5 64 rfl rfl
theorem wd_743 : Cond.code yX9_parts prog_11_method_11_code 2 (Option.none : Option Jvm.ClassFile.FieldType) ∈ nt_tbl := nt_t5 65 rfl rfl
theorem wd_744 : Cond.methodLink RL 26 yX9_person ∈ nt_tbl := nt_t5 66 rfl rfl
theorem wd_745 : Cond.instanceMethod yX9_person ∈ nt_tbl := nt_t5 67 rfl rfl
theorem wd_746 : Cond.selects RX9 yX9_person yX9_person ∈ nt_tbl := nt_t5 68 rfl rfl
theorem wd_747 : Cond.code yX9_person prog_11_method_13_code 3 (Option.some Jvm.ClassFile.FieldType.int) ∈ nt_tbl := nt_t5 69 rfl rfl
theorem wd_748 : Cond.constantLong RX9 121 (399 : Int64) ∈ nt_tbl := nt_t5 70 rfl rfl
theorem wd_749 : Cond.constantLong RX9 123 (255 : Int64) ∈ nt_tbl := nt_t5 71 rfl rfl
theorem wd_750 : Cond.methodLink RL 30 yX9_set ∈ nt_tbl := nt_t5 72 rfl rfl
theorem wd_751 : Cond.instanceMethod yX9_set ∈ nt_tbl := nt_t5 73 rfl rfl
theorem wd_752 : Cond.selects RX9 yX9_set yX9_set ∈ nt_tbl := nt_t5 74 rfl rfl
theorem wd_753 : Cond.code yX9_set prog_11_method_14_code 5 (Option.some Jvm.ClassFile.FieldType.int) ∈ nt_tbl := nt_t5 75 rfl rfl
theorem wd_754 : Cond.constantLong RX9 125 (2 : Int64) ∈ nt_tbl := nt_t5 76 rfl rfl
theorem wd_755 : Cond.methodLink RX9 127 yX9_isPerson ∈ nt_tbl := nt_t5 77 rfl rfl
theorem wd_756 : Cond.instanceMethod yX9_isPerson ∈ nt_tbl := nt_t5 79 rfl rfl
theorem wd_757 : Cond.code yX9_isPerson prog_11_method_8_code 2 (Option.some Jvm.ClassFile.FieldType.boolean) ∈ nt_tbl := nt_t5 80 rfl rfl
theorem wd_758 : Cond.constantLong RX9 107 (3 : Int64) ∈ nt_tbl := nt_t5 81 rfl rfl
theorem wd_759 : Cond.constantLong RX9 130 (99 : Int64) ∈ nt_tbl := nt_t5 82 rfl rfl
theorem wd_760 : Cond.methodLink RL 34 yX9_hears ∈ nt_tbl := nt_t5 83 rfl rfl
theorem wd_761 : Cond.instanceMethod yX9_hears ∈ nt_tbl := nt_t5 84 rfl rfl
theorem wd_762 : Cond.selects RX9 yX9_hears yX9_hears ∈ nt_tbl := nt_t5 85 rfl rfl
theorem wd_763 : Cond.code yX9_hears prog_11_method_15_code 5 (Option.some Jvm.ClassFile.FieldType.int) ∈ nt_tbl := nt_t5 86 rfl rfl
theorem wd_764 : Cond.methodLink RL 38 yX9_told ∈ nt_tbl := nt_t5 87 rfl rfl
theorem wd_765 : Cond.instanceMethod yX9_told ∈ nt_tbl := nt_t5 88 rfl rfl
theorem wd_766 : Cond.selects RX9 yX9_told yX9_told ∈ nt_tbl := nt_t5 89 rfl rfl
theorem wd_767 : Cond.code yX9_told prog_11_method_18_code 4 (Option.some Jvm.ClassFile.FieldType.int) ∈ nt_tbl := nt_t5 90 rfl rfl
theorem wd_768 : Cond.methodLink RX9 135 yX9_stays ∈ nt_tbl := nt_t5 91 rfl rfl
theorem wd_769 : Cond.instanceMethod yX9_stays ∈ nt_tbl := nt_t5 93 rfl rfl
theorem wd_770 : Cond.code yX9_stays prog_11_method_17_code 3 (Option.some Jvm.ClassFile.FieldType.int) ∈ nt_tbl := nt_t5 94 rfl rfl
theorem wd_771 : Cond.methodLink RX9 139 yX9_counts ∈ nt_tbl := nt_t5 95 rfl rfl
theorem wd_772 : Cond.instanceMethod yX9_counts ∈ nt_tbl := nt_t5 97 rfl rfl
theorem wd_773 : Cond.code yX9_counts prog_11_method_16_code 5 (Option.some Jvm.ClassFile.FieldType.int) ∈ nt_tbl := nt_t5 98 rfl rfl
theorem wd_774 : Cond.methodLink RL 42 yX9_one ∈ nt_tbl := nt_t5 99 rfl rfl
theorem wd_775 : Cond.instanceMethod yX9_one ∈ nt_tbl := nt_t5 100 rfl rfl
theorem wd_776 : Cond.selects RX9 yX9_one yX9_one ∈ nt_tbl := nt_t5 101 rfl rfl
theorem wd_777 : Cond.code yX9_one prog_11_method_20_code 3 (Option.some Jvm.ClassFile.FieldType.int) ∈ nt_tbl := nt_t5 102 rfl rfl
theorem wd_778 : Cond.constantLong RX9 143 (4 : Int64) ∈ nt_tbl := nt_t5 103 rfl rfl
theorem wd_779 : Cond.methodLink RX9 145 yX9_known ∈ nt_tbl := nt_t5 104 rfl rfl
theorem wd_780 : Cond.instanceMethod yX9_known ∈ nt_tbl := nt_t5 106 rfl rfl
theorem wd_781 : Cond.code yX9_known prog_11_method_19_code 4 (Option.some Jvm.ClassFile.FieldType.int) ∈ nt_tbl := nt_t5 107 rfl rfl
theorem wd_782 : Cond.methodLink RL 47 yX9_feed ∈ nt_tbl := nt_t5 108 rfl rfl
theorem wd_783 : Cond.instanceMethod yX9_feed ∈ nt_tbl := nt_t5 109 rfl rfl
theorem wd_784 : Cond.selects RX9 yX9_feed yX9_feed ∈ nt_tbl := nt_t5 110 rfl rfl
theorem wd_785 : Cond.code yX9_feed prog_11_method_21_code 2 (Option.some Jvm.ClassFile.FieldType.int) ∈ nt_tbl := nt_t5 111 rfl rfl
theorem wd_786 : Cond.methodLink RL 52 yX9_text ∈ nt_tbl := nt_t5 112 rfl rfl
theorem wd_787 : Cond.instanceMethod yX9_text ∈ nt_tbl := nt_t5 113 rfl rfl
theorem wd_788 : Cond.selects RX9 yX9_text yX9_text ∈ nt_tbl := nt_t5 114 rfl rfl
theorem wd_789 : Cond.code yX9_text prog_11_method_38_code 2 (Option.some Jvm.ClassFile.FieldType.int) ∈ nt_tbl := nt_t5 115 rfl rfl
theorem wd_790 : Cond.methodLink RX9 262 yX9_read ∈ nt_tbl := nt_t5 116 rfl rfl
theorem wd_791 : Cond.instanceMethod yX9_read ∈ nt_tbl := nt_t5 118 rfl rfl
theorem wd_792 : Cond.code yX9_read prog_11_method_37_code 6 (Option.some Jvm.ClassFile.FieldType.int) ∈ nt_tbl := nt_t5 119 rfl rfl
theorem wd_793 : Cond.methodLink RX9 200 yX9_next ∈ nt_tbl := nt_t5 120 rfl rfl
theorem wd_794 : Cond.instanceMethod yX9_next ∈ nt_tbl := nt_t5 122 rfl rfl
theorem wd_795 : Cond.code yX9_next prog_11_method_23_code 3 (Option.none : Option Jvm.ClassFile.FieldType) ∈ nt_tbl := nt_t5 123 rfl rfl
theorem wd_796 : Cond.methodLink RX9 160 yX9_byteAt ∈ nt_tbl := nt_t5 124 rfl rfl
theorem wd_797 : Cond.instanceMethod yX9_byteAt ∈ nt_tbl := nt_t5 126 rfl rfl
theorem wd_798 : Cond.code yX9_byteAt prog_11_method_22_code 2 (Option.some Jvm.ClassFile.FieldType.int) ∈ nt_tbl := nt_t5 127 rfl rfl
theorem wd_799 : Cond.constantLong RX9 169 (97 : Int64) ∈ nt_tbl := nt_t5 128 rfl rfl
theorem wd_800 : Cond.constantLong RX9 171 (122 : Int64) ∈ nt_tbl := nt_t5 129 rfl rfl
theorem wd_801 : Cond.constantLong RX9 173 (48 : Int64) ∈ nt_tbl := nt_t5 130 rfl rfl
theorem wd_802 : Cond.constantLong RX9 175 (57 : Int64) ∈ nt_tbl := nt_t5 131 rfl rfl
theorem wd_803 : Cond.constantLong RX9 181 (10 : Int64) ∈ nt_tbl := nt_t5 132 rfl rfl
theorem wd_804 : Cond.methodLink RX9 203 yX9_isWord ∈ nt_tbl := nt_t5 133 rfl rfl
theorem wd_805 : Cond.instanceMethod yX9_isWord ∈ nt_tbl := nt_t5 135 rfl rfl
theorem wd_806 : Cond.code yX9_isWord prog_11_method_26_code 9 (Option.some Jvm.ClassFile.FieldType.boolean) ∈ nt_tbl := nt_t5 136 rfl rfl
theorem wd_807 : Cond.methodLink RX9 190 yX9_isLetter ∈ nt_tbl := nt_t5 137 rfl rfl
theorem wd_808 : Cond.instanceMethod yX9_isLetter ∈ nt_tbl := nt_t5 139 rfl rfl
theorem wd_809 : Cond.code yX9_isLetter prog_11_method_25_code 3 (Option.some Jvm.ClassFile.FieldType.boolean) ∈ nt_tbl := nt_t5 140 rfl rfl
theorem wd_810 : Cond.methodLink RX9 258 yX9_part ∈ nt_tbl := nt_t5 141 rfl rfl
theorem wd_811 : Cond.instanceMethod yX9_part ∈ nt_tbl := nt_t5 143 rfl rfl
theorem wd_812 : Cond.code yX9_part prog_11_method_36_code 3 (Option.some Jvm.ClassFile.FieldType.int) ∈ nt_tbl := nt_t5 144 rfl rfl
theorem wd_813 : Cond.methodLink RX9 197 yX9_fail ∈ nt_tbl := nt_t5 145 rfl rfl
theorem wd_814 : Cond.instanceMethod yX9_fail ∈ nt_tbl := nt_t5 147 rfl rfl
theorem wd_815 : Cond.code yX9_fail prog_11_method_24_code 1 (Option.none : Option Jvm.ClassFile.FieldType) ∈ nt_tbl := nt_t5 148 rfl rfl
theorem wd_816 : Cond.methodLink RX9 236 yX9_either ∈ nt_tbl := nt_t5 149 rfl rfl
theorem wd_817 : Cond.instanceMethod yX9_either ∈ nt_tbl := nt_t5 151 rfl rfl
theorem wd_818 : Cond.code yX9_either prog_11_method_35_code 3 (Option.some Jvm.ClassFile.FieldType.int) ∈ nt_tbl := nt_t5 152 rfl rfl
theorem wd_819 : Cond.methodLink RX9 255 yX9_both ∈ nt_tbl := nt_t5 153 rfl rfl
theorem wd_820 : Cond.instanceMethod yX9_both ∈ nt_tbl := nt_t5 155 rfl rfl
theorem wd_821 : Cond.code yX9_both prog_11_method_34_code 3 (Option.some Jvm.ClassFile.FieldType.int) ∈ nt_tbl := nt_t5 156 rfl rfl
theorem wd_822 : Cond.methodLink RX9 247 yX9_not ∈ nt_tbl := nt_t5 157 rfl rfl
theorem wd_823 : Cond.instanceMethod yX9_not ∈ nt_tbl := nt_t5 159 rfl rfl
theorem wd_824 : Cond.code yX9_not prog_11_method_33_code 4 (Option.some Jvm.ClassFile.FieldType.int) ∈ nt_tbl := nt_t5 160 rfl rfl
theorem wd_825 : Cond.methodLink RX9 228 yX9_opens ∈ nt_tbl := nt_t5 161 rfl rfl
theorem wd_826 : Cond.instanceMethod yX9_opens ∈ nt_tbl := nt_t5 163 rfl rfl
theorem wd_827 : Cond.code yX9_opens prog_11_method_28_code 1 (Option.some Jvm.ClassFile.FieldType.boolean) ∈ nt_tbl := nt_t5 164 rfl rfl
theorem wd_828 : Cond.methodLink RX9 250 yX9_added ∈ nt_tbl := nt_t5 165 rfl rfl
theorem wd_829 : Cond.instanceMethod yX9_added ∈ nt_tbl := nt_t5 167 rfl rfl
theorem wd_830 : Cond.code yX9_added prog_11_method_32_code 4 (Option.some Jvm.ClassFile.FieldType.int) ∈ nt_tbl := nt_t5 168 rfl rfl
theorem wd_831 : Cond.methodLink RX9 242 yX9_term ∈ nt_tbl := nt_t5 169 rfl rfl
theorem wd_832 : Cond.instanceMethod yX9_term ∈ nt_tbl := nt_t5 171 rfl rfl
theorem wd_833 : Cond.code yX9_term prog_11_method_31_code 2 (Option.some Jvm.ClassFile.FieldType.int) ∈ nt_tbl := nt_t5 172 rfl rfl
theorem wd_834 : Cond.methodLink RX9 232 yX9_atom ∈ nt_tbl := nt_t5 173 rfl rfl
theorem wd_835 : Cond.instanceMethod yX9_atom ∈ nt_tbl := nt_t5 175 rfl rfl
theorem wd_836 : Cond.code yX9_atom prog_11_method_30_code 2 (Option.some Jvm.ClassFile.FieldType.int) ∈ nt_tbl := nt_t5 176 rfl rfl
theorem wd_837 : Cond.methodLink RX9 225 yX9_isSign ∈ nt_tbl := nt_t5 177 rfl rfl
theorem wd_838 : Cond.instanceMethod yX9_isSign ∈ nt_tbl := nt_t5 179 rfl rfl
theorem wd_839 : Cond.code yX9_isSign prog_11_method_27_code 2 (Option.some Jvm.ClassFile.FieldType.boolean) ∈ nt_tbl := nt_t5 180 rfl rfl
theorem wd_840 : Cond.methodLink RX9 239 yX9_name ∈ nt_tbl := nt_t5 181 rfl rfl
theorem wd_841 : Cond.instanceMethod yX9_name ∈ nt_tbl := nt_t5 183 rfl rfl
theorem wd_842 : Cond.code yX9_name prog_11_method_29_code 1 (Option.some Jvm.ClassFile.FieldType.int) ∈ nt_tbl := nt_t5 184 rfl rfl
theorem wd_843 : Cond.constantLong RX9 245 (43 : Int64) ∈ nt_tbl := nt_t5 185 rfl rfl
theorem wd_844 : Cond.constantLong RX9 253 (60 : Int64) ∈ nt_tbl := nt_t5 186 rfl rfl
theorem wd_845 : Cond.methodLink RL 56 yX9_force ∈ nt_tbl := nt_t5 187 rfl rfl
theorem wd_846 : Cond.instanceMethod yX9_force ∈ nt_tbl := nt_t5 188 rfl rfl
theorem wd_847 : Cond.selects RX9 yX9_force yX9_force ∈ nt_tbl := nt_t5 189 rfl rfl
theorem wd_848 : Cond.code yX9_force prog_11_method_39_code 3 (Option.some Jvm.ClassFile.FieldType.int) ∈ nt_tbl := nt_t5 190 rfl rfl
theorem wd_849 : Cond.methodLink RL 60 yX9_may ∈ nt_tbl := nt_t5 191 rfl rfl
theorem wd_850 : Cond.instanceMethod yX9_may ∈ nt_tbl := nt_t5 192 rfl rfl
theorem wd_851 : Cond.selects RX9 yX9_may yX9_may ∈ nt_tbl := nt_t5 193 rfl rfl
theorem wd_852 : Cond.code yX9_may prog_11_method_46_code 2 (Option.some Jvm.ClassFile.FieldType.int) ∈ nt_tbl := nt_t5 194 rfl rfl
theorem wd_853 : Cond.methodLink RX9 288 yX9_isHouse ∈ nt_tbl := nt_t5 195 rfl rfl
theorem wd_854 : Cond.static yX9_isHouse ∈ nt_tbl := nt_t5 196 rfl rfl
theorem wd_855 : Cond.code yX9_isHouse prog_11_method_9_code 1 (Option.some Jvm.ClassFile.FieldType.boolean) ∈ nt_tbl := nt_t5 197 rfl rfl
theorem wd_856 : Cond.methodLink RX9 291 yX9_allMay ∈ nt_tbl := nt_t5 198 rfl rfl
theorem wd_857 : Cond.instanceMethod yX9_allMay ∈ nt_tbl := nt_t5 200 rfl rfl
theorem wd_858 : Cond.code yX9_allMay prog_11_method_45_code 4 (Option.some Jvm.ClassFile.FieldType.int) ∈ nt_tbl := nt_t5 201 rfl rfl
theorem wd_859 : Cond.methodLink RX9 285 yX9_teller ∈ nt_tbl := nt_t5 202 rfl rfl
theorem wd_860 : Cond.instanceMethod yX9_teller ∈ nt_tbl := nt_t5 204 rfl rfl
theorem wd_861 : Cond.code yX9_teller prog_11_method_44_code 5 (Option.some Jvm.ClassFile.FieldType.int) ∈ nt_tbl := nt_t5 205 rfl rfl
theorem wd_862 : Cond.methodLink RX9 278 yX9_sitting ∈ nt_tbl := nt_t5 206 rfl rfl
theorem wd_863 : Cond.instanceMethod yX9_sitting ∈ nt_tbl := nt_t5 208 rfl rfl
theorem wd_864 : Cond.code yX9_sitting prog_11_method_41_code 4 (Option.some Jvm.ClassFile.FieldType.int) ∈ nt_tbl := nt_t5 209 rfl rfl
theorem wd_865 : Cond.methodLink RX9 281 yX9_mayTell ∈ nt_tbl := nt_t5 210 rfl rfl
theorem wd_866 : Cond.instanceMethod yX9_mayTell ∈ nt_tbl := nt_t5 212 rfl rfl
theorem wd_867 : Cond.code yX9_mayTell prog_11_method_43_code 5 (Option.some Jvm.ClassFile.FieldType.boolean) ∈ nt_tbl := nt_t5 213 rfl rfl
theorem wd_868 : Cond.methodLink RX9 271 yX9_knowers ∈ nt_tbl := nt_t5 214 rfl rfl
theorem wd_869 : Cond.instanceMethod yX9_knowers ∈ nt_tbl := nt_t5 216 rfl rfl
theorem wd_870 : Cond.code yX9_knowers prog_11_method_42_code 4 (Option.some Jvm.ClassFile.FieldType.int) ∈ nt_tbl := nt_t5 217 rfl rfl
theorem wd_871 : Cond.methodLink RX9 268 yX9_bitsOf ∈ nt_tbl := nt_t5 218 rfl rfl
theorem wd_872 : Cond.static yX9_bitsOf ∈ nt_tbl := nt_t5 219 rfl rfl
theorem wd_873 : Cond.code yX9_bitsOf prog_11_method_4_code 3 (Option.some Jvm.ClassFile.FieldType.int) ∈ nt_tbl := nt_t5 220 rfl rfl
theorem wd_874 : Cond.methodLink RX9 274 yX9_says ∈ nt_tbl := nt_t5 221 rfl rfl
theorem wd_875 : Cond.instanceMethod yX9_says ∈ nt_tbl := nt_t5 223 rfl rfl
theorem wd_876 : Cond.code yX9_says prog_11_method_40_code 5 (Option.some Jvm.ClassFile.FieldType.int) ∈ nt_tbl := nt_t5 224 rfl rfl
theorem wd_877 : Cond.methodLink RL 64 yX9_by ∈ nt_tbl := nt_t5 225 rfl rfl
theorem wd_878 : Cond.instanceMethod yX9_by ∈ nt_tbl := nt_t5 226 rfl rfl
theorem wd_879 : Cond.selects RX9 yX9_by yX9_by ∈ nt_tbl := nt_t5 227 rfl rfl
theorem wd_880 : Cond.code yX9_by prog_11_method_47_code 3 (Option.some Jvm.ClassFile.FieldType.int) ∈ nt_tbl := nt_t5 228 rfl rfl
theorem wd_881 : Cond.methodLink RL 69 yX9_worth ∈ nt_tbl := nt_t5 229 rfl rfl
theorem wd_882 : Cond.instanceMethod yX9_worth ∈ nt_tbl := nt_t5 230 rfl rfl
theorem wd_883 : Cond.selects RX9 yX9_worth yX9_worth ∈ nt_tbl := nt_t5 231 rfl rfl
theorem wd_884 : Cond.code yX9_worth prog_11_method_49_code 4 (Option.some Jvm.ClassFile.FieldType.long) ∈ nt_tbl := nt_t5 232 rfl rfl
theorem wd_885 : Cond.constantLong RX9 298 (-4611686018427387904 : Int64) ∈ nt_tbl := nt_t5 233 rfl rfl
theorem wd_886 : Cond.methodLink RX9 300 yX9_worthBy ∈ nt_tbl := nt_t5 234 rfl rfl
theorem wd_887 : Cond.instanceMethod yX9_worthBy ∈ nt_tbl := nt_t5 236 rfl rfl
theorem wd_888 : Cond.code yX9_worthBy prog_11_method_48_code 7 (Option.some Jvm.ClassFile.FieldType.int) ∈ nt_tbl := nt_t5 237 rfl rfl
theorem wd_889 : Cond.methodLink RX9 294 yX9_within ∈ nt_tbl := nt_t5 238 rfl rfl
theorem wd_890 : Cond.static yX9_within ∈ nt_tbl := nt_t5 239 rfl rfl
theorem wd_891 : Cond.code yX9_within prog_11_method_3_code 3 (Option.some Jvm.ClassFile.FieldType.int) ∈ nt_tbl := nt_t6 0 rfl rfl
theorem wd_892 : Cond.methodLink RL 73 yX9_most ∈ nt_tbl := nt_t6 1 rfl rfl
theorem wd_893 : Cond.instanceMethod yX9_most ∈ nt_tbl := nt_t6 2 rfl rfl
theorem wd_894 : Cond.selects RX9 yX9_most yX9_most ∈ nt_tbl := nt_t6 3 rfl rfl
theorem wd_895 : Cond.code yX9_most prog_11_method_51_code 4 (Option.some Jvm.ClassFile.FieldType.long) ∈ nt_tbl := nt_t6 4 rfl rfl
theorem wd_896 : Cond.methodLink RX9 306 yX9_best ∈ nt_tbl := nt_t6 5 rfl rfl
theorem wd_897 : Cond.instanceMethod yX9_best ∈ nt_tbl := nt_t6 7 rfl rfl
theorem wd_898 : Cond.code yX9_best prog_11_method_50_code 6 (Option.some Jvm.ClassFile.FieldType.int) ∈ nt_tbl := nt_t6 8 rfl rfl
theorem wd_899 : Cond.methodLink RL 77 yX9_tell ∈ nt_tbl := nt_t6 9 rfl rfl
theorem wd_900 : Cond.instanceMethod yX9_tell ∈ nt_tbl := nt_t6 10 rfl rfl
theorem wd_901 : Cond.selects RX9 yX9_tell yX9_tell ∈ nt_tbl := nt_t6 11 rfl rfl
theorem wd_902 : Cond.code yX9_tell prog_11_method_53_code 4 (Option.some Jvm.ClassFile.FieldType.int) ∈ nt_tbl := nt_t6 12 rfl rfl
theorem wd_903 : Cond.methodLink RX9 309 yX9_tellIn ∈ nt_tbl := nt_t6 13 rfl rfl
theorem wd_904 : Cond.instanceMethod yX9_tellIn ∈ nt_tbl := nt_t6 15 rfl rfl
theorem wd_905 : Cond.code yX9_tellIn prog_11_method_52_code 6 (Option.some Jvm.ClassFile.FieldType.int) ∈ nt_tbl := nt_t6 16 rfl rfl
theorem wd_906 : Cond.methodLink RL 81 yX9_pass ∈ nt_tbl := nt_t6 17 rfl rfl
theorem wd_907 : Cond.instanceMethod yX9_pass ∈ nt_tbl := nt_t6 18 rfl rfl
theorem wd_908 : Cond.selects RX9 yX9_pass yX9_pass ∈ nt_tbl := nt_t6 19 rfl rfl
theorem wd_909 : Cond.code yX9_pass prog_11_method_54_code 3 (Option.some Jvm.ClassFile.FieldType.int) ∈ nt_tbl := nt_t6 20 rfl rfl
theorem wd_910 : Cond.methodLink RL 85 yX9_goesOn ∈ nt_tbl := nt_t6 21 rfl rfl
theorem wd_911 : Cond.instanceMethod yX9_goesOn ∈ nt_tbl := nt_t6 22 rfl rfl
theorem wd_912 : Cond.selects RX9 yX9_goesOn yX9_goesOn ∈ nt_tbl := nt_t6 23 rfl rfl
theorem wd_913 : Cond.code yX9_goesOn prog_11_method_58_code 5 (Option.some Jvm.ClassFile.FieldType.int) ∈ nt_tbl := nt_t6 24 rfl rfl
theorem wd_914 : Cond.methodLink RX9 318 yX9_laysAside ∈ nt_tbl := nt_t6 25 rfl rfl
theorem wd_915 : Cond.instanceMethod yX9_laysAside ∈ nt_tbl := nt_t6 27 rfl rfl
theorem wd_916 : Cond.code yX9_laysAside prog_11_method_55_code 2 (Option.none : Option Jvm.ClassFile.FieldType) ∈ nt_tbl := nt_t6 28 rfl rfl
theorem wd_917 : Cond.methodLink RX9 321 yX9_canAll ∈ nt_tbl := nt_t6 29 rfl rfl
theorem wd_918 : Cond.instanceMethod yX9_canAll ∈ nt_tbl := nt_t6 31 rfl rfl
theorem wd_919 : Cond.code yX9_canAll prog_11_method_57_code 6 (Option.some Jvm.ClassFile.FieldType.boolean) ∈ nt_tbl := nt_t6 32 rfl rfl
theorem wd_920 : Cond.methodLink RX9 315 yX9_laysBack ∈ nt_tbl := nt_t6 33 rfl rfl
theorem wd_921 : Cond.instanceMethod yX9_laysBack ∈ nt_tbl := nt_t6 35 rfl rfl
theorem wd_922 : Cond.code yX9_laysBack prog_11_method_56_code 2 (Option.none : Option Jvm.ClassFile.FieldType) ∈ nt_tbl := nt_t6 36 rfl rfl
theorem wd_923 : Cond.methodLink RL 89 yX9_spread ∈ nt_tbl := nt_t6 37 rfl rfl
theorem wd_924 : Cond.instanceMethod yX9_spread ∈ nt_tbl := nt_t6 38 rfl rfl
theorem wd_925 : Cond.selects RX9 yX9_spread yX9_spread ∈ nt_tbl := nt_t6 39 rfl rfl
theorem wd_926 : Cond.code yX9_spread prog_11_method_63_code 8 (Option.some Jvm.ClassFile.FieldType.int) ∈ nt_tbl := nt_t6 40 rfl rfl
theorem wd_927 : Cond.methodLink RX9 333 yX9_housesWith ∈ nt_tbl := nt_t6 41 rfl rfl
theorem wd_928 : Cond.instanceMethod yX9_housesWith ∈ nt_tbl := nt_t6 43 rfl rfl
theorem wd_929 : Cond.code yX9_housesWith prog_11_method_62_code 7 (Option.some Jvm.ClassFile.FieldType.int) ∈ nt_tbl := nt_t6 44 rfl rfl
theorem wd_930 : Cond.methodLink RX9 327 yX9_digit ∈ nt_tbl := nt_t6 45 rfl rfl
theorem wd_931 : Cond.static yX9_digit ∈ nt_tbl := nt_t6 46 rfl rfl
theorem wd_932 : Cond.code yX9_digit prog_11_method_61_code 5 (Option.some Jvm.ClassFile.FieldType.int) ∈ nt_tbl := nt_t6 47 rfl rfl
theorem wd_933 : Cond.methodLink RX9 330 yX9_anyMay ∈ nt_tbl := nt_t6 48 rfl rfl
theorem wd_934 : Cond.instanceMethod yX9_anyMay ∈ nt_tbl := nt_t6 50 rfl rfl
theorem wd_935 : Cond.code yX9_anyMay prog_11_method_60_code 6 (Option.some Jvm.ClassFile.FieldType.boolean) ∈ nt_tbl := nt_t6 51 rfl rfl
theorem wd_936 : Cond.methodLink RX9 324 yX9_isTired ∈ nt_tbl := nt_t6 52 rfl rfl
theorem wd_937 : Cond.instanceMethod yX9_isTired ∈ nt_tbl := nt_t6 54 rfl rfl
theorem wd_938 : Cond.code yX9_isTired prog_11_method_59_code 5 (Option.some Jvm.ClassFile.FieldType.boolean) ∈ nt_tbl := nt_t6 55 rfl rfl
theorem wd_939 : Cond.methodLink RL 93 yX9_keepAway ∈ nt_tbl := nt_t6 56 rfl rfl
theorem wd_940 : Cond.instanceMethod yX9_keepAway ∈ nt_tbl := nt_t6 57 rfl rfl
theorem wd_941 : Cond.selects RX9 yX9_keepAway yX9_keepAway ∈ nt_tbl := nt_t6 58 rfl rfl
theorem wd_942 : Cond.code yX9_keepAway prog_11_method_64_code 6 (Option.some Jvm.ClassFile.FieldType.int) ∈ nt_tbl := nt_t6 59 rfl rfl
theorem wd_943 : Cond.methodLink RL 97 yX9_send ∈ nt_tbl := nt_t6 60 rfl rfl
theorem wd_944 : Cond.instanceMethod yX9_send ∈ nt_tbl := nt_t6 61 rfl rfl
theorem wd_945 : Cond.selects RX9 yX9_send yX9_send ∈ nt_tbl := nt_t6 62 rfl rfl
theorem wd_946 : Cond.code yX9_send prog_11_method_65_code 10 (Option.some Jvm.ClassFile.FieldType.int) ∈ nt_tbl := nt_t6 63 rfl rfl
theorem wd_947 : Cond.methodLink RL 101 yX9_stranger ∈ nt_tbl := nt_t6 64 rfl rfl
theorem wd_948 : Cond.instanceMethod yX9_stranger ∈ nt_tbl := nt_t6 65 rfl rfl
theorem wd_949 : Cond.selects RX9 yX9_stranger yX9_stranger ∈ nt_tbl := nt_t6 66 rfl rfl
theorem wd_950 : Cond.code yX9_stranger prog_11_method_66_code 6 (Option.some Jvm.ClassFile.FieldType.int) ∈ nt_tbl := nt_t6 67 rfl rfl
theorem wd_951 : Cond.methodLink RL 105 yX9_left ∈ nt_tbl := nt_t6 68 rfl rfl
theorem wd_952 : Cond.instanceMethod yX9_left ∈ nt_tbl := nt_t6 69 rfl rfl
theorem wd_953 : Cond.selects RX9 yX9_left yX9_left ∈ nt_tbl := nt_t6 70 rfl rfl
theorem wd_954 : Cond.code yX9_left prog_11_method_67_code 3 (Option.some Jvm.ClassFile.FieldType.int) ∈ nt_tbl := nt_t6 71 rfl rfl
theorem wd_955 : Cond.methodLink RL 109 yX9_judge ∈ nt_tbl := nt_t6 72 rfl rfl
theorem wd_956 : Cond.instanceMethod yX9_judge ∈ nt_tbl := nt_t6 73 rfl rfl
theorem wd_957 : Cond.selects RX9 yX9_judge yX9_judge ∈ nt_tbl := nt_t6 74 rfl rfl
theorem wd_958 : Cond.code yX9_judge prog_11_method_68_code 7 (Option.some Jvm.ClassFile.FieldType.int) ∈ nt_tbl := nt_t6 75 rfl rfl
theorem wd_959 : Cond.methodLink RX9 336 yX9_isSheet ∈ nt_tbl := nt_t6 76 rfl rfl
theorem wd_960 : Cond.static yX9_isSheet ∈ nt_tbl := nt_t6 77 rfl rfl
theorem wd_961 : Cond.code yX9_isSheet prog_11_method_73_code 1 (Option.some Jvm.ClassFile.FieldType.boolean) ∈ nt_tbl := nt_t6 78 rfl rfl
theorem wd_962 : Cond.methodLink RL 113 yX9_drawn ∈ nt_tbl := nt_t6 79 rfl rfl
theorem wd_963 : Cond.instanceMethod yX9_drawn ∈ nt_tbl := nt_t6 80 rfl rfl
theorem wd_964 : Cond.selects RX9 yX9_drawn yX9_drawn ∈ nt_tbl := nt_t6 81 rfl rfl
theorem wd_965 : Cond.code yX9_drawn prog_11_method_69_code 8 (Option.some Jvm.ClassFile.FieldType.int) ∈ nt_tbl := nt_t6 82 rfl rfl
theorem wd_966 : Cond.constantLong RX9 339 (40 : Int64) ∈ nt_tbl := nt_t6 83 rfl rfl
theorem wd_967 : Cond.constant RX9 341 (1103515245 : Int32) ∈ nt_tbl := nt_t6 84 rfl rfl
theorem wd_968 : Cond.methodLink RX9 342 yX9_pass ∈ nt_tbl := nt_t6 85 rfl rfl
theorem wd_969 : Cond.methodLink RL 117 yX9_image ∈ nt_tbl := nt_t6 86 rfl rfl
theorem wd_970 : Cond.instanceMethod yX9_image ∈ nt_tbl := nt_t6 87 rfl rfl
theorem wd_971 : Cond.selects RX9 yX9_image yX9_image ∈ nt_tbl := nt_t6 88 rfl rfl
theorem wd_972 : Cond.code yX9_image prog_11_method_70_code 2 (Option.some Jvm.ClassFile.FieldType.int) ∈ nt_tbl := nt_t6 89 rfl rfl
theorem wd_973 : Cond.methodLink RL 121 yX9_back ∈ nt_tbl := nt_t6 90 rfl rfl
theorem wd_974 : Cond.instanceMethod yX9_back ∈ nt_tbl := nt_t6 91 rfl rfl
theorem wd_975 : Cond.selects RX9 yX9_back yX9_back ∈ nt_tbl := nt_t6 92 rfl rfl
theorem wd_976 : Cond.code yX9_back prog_11_method_71_code 2 (Option.some Jvm.ClassFile.FieldType.int) ∈ nt_tbl := nt_t6 93 rfl rfl
theorem wd_977 : Cond.methodLink RL 125 yX9_count ∈ nt_tbl := nt_t6 94 rfl rfl
theorem wd_978 : Cond.instanceMethod yX9_count ∈ nt_tbl := nt_t6 95 rfl rfl
theorem wd_979 : Cond.selects RX9 yX9_count yX9_count ∈ nt_tbl := nt_t6 96 rfl rfl
theorem wd_980 : Cond.code yX9_count prog_11_method_72_code 2 (Option.some Jvm.ClassFile.FieldType.int) ∈ nt_tbl := nt_t6 97 rfl rfl
theorem wd_981 : Cond.methodLink RL 129 yX9_sheet ∈ nt_tbl := nt_t6 98 rfl rfl
theorem wd_982 : Cond.instanceMethod yX9_sheet ∈ nt_tbl := nt_t6 99 rfl rfl
theorem wd_983 : Cond.selects RX9 yX9_sheet yX9_sheet ∈ nt_tbl := nt_t6 100 rfl rfl
theorem wd_984 : Cond.code yX9_sheet prog_11_method_74_code 5 (Option.some Jvm.ClassFile.FieldType.int) ∈ nt_tbl := nt_t6 101 rfl rfl
theorem wd_985 : Cond.constantLong RX9 351 (-1 : Int64) ∈ nt_tbl := nt_t6 102 rfl rfl
theorem wd_986 : Cond.methodLink RL 133 yX9_cell ∈ nt_tbl := nt_t6 103 rfl rfl
theorem wd_987 : Cond.instanceMethod yX9_cell ∈ nt_tbl := nt_t6 104 rfl rfl
theorem wd_988 : Cond.selects RX9 yX9_cell yX9_cell ∈ nt_tbl := nt_t6 105 rfl rfl
theorem wd_989 : Cond.code yX9_cell prog_11_method_75_code 4 (Option.some Jvm.ClassFile.FieldType.int) ∈ nt_tbl := nt_t6 106 rfl rfl
theorem wd_990 : Cond.methodLink RL 138 yX9_copy ∈ nt_tbl := nt_t6 107 rfl rfl
theorem wd_991 : Cond.instanceMethod yX9_copy ∈ nt_tbl := nt_t6 108 rfl rfl
theorem wd_992 : Cond.selects RX9 yX9_copy yX9_copy ∈ nt_tbl := nt_t6 109 rfl rfl
theorem wd_993 : Cond.code yX9_copy prog_11_method_76_code 9 (Option.some Jvm.ClassFile.FieldType.int) ∈ nt_tbl := nt_t6 110 rfl rfl
theorem wd_994 : Cond.methodLink RL 143 yX9_people ∈ nt_tbl := nt_t6 111 rfl rfl
theorem wd_995 : Cond.instanceMethod yX9_people ∈ nt_tbl := nt_t6 112 rfl rfl
theorem wd_996 : Cond.selects RX9 yX9_people yX9_people ∈ nt_tbl := nt_t6 113 rfl rfl
theorem wd_997 : Cond.code yX9_people prog_11_method_77_code 8 (Option.some Jvm.ClassFile.FieldType.int) ∈ nt_tbl := nt_t6 114 rfl rfl
theorem wd_998 : Cond.constantLong RX9 353 (8 : Int64) ∈ nt_tbl := nt_t6 115 rfl rfl
theorem wd_999 : Cond.methodLink RX9 355 yX9_person ∈ nt_tbl := nt_t6 116 rfl rfl
theorem wd_1000 : Cond.methodLink RL 147 yX9_taken ∈ nt_tbl := nt_t6 117 rfl rfl
theorem wd_1001 : Cond.instanceMethod yX9_taken ∈ nt_tbl := nt_t6 118 rfl rfl
theorem wd_1002 : Cond.selects RX9 yX9_taken yX9_taken ∈ nt_tbl := nt_t6 119 rfl rfl
theorem wd_1003 : Cond.code yX9_taken prog_11_method_79_code 4 (Option.some Jvm.ClassFile.FieldType.int) ∈ nt_tbl := nt_t6 120 rfl rfl
theorem wd_1004 : Cond.methodLink RX9 358 yX9_over ∈ nt_tbl := nt_t6 121 rfl rfl
theorem wd_1005 : Cond.static yX9_over ∈ nt_tbl := nt_t6 122 rfl rfl
theorem wd_1006 : Cond.code yX9_over prog_11_method_78_code 1 (Option.some Jvm.ClassFile.FieldType.int) ∈ nt_tbl := nt_t6 123 rfl rfl
theorem wd_1007 : Cond.fieldLink RJ0 9 "java/lang/String" "value" "[B" ∈ nt_tbl := nt_t6 124 rfl rfl
theorem wd_1008 : Cond.fieldLink RJ0 15 "java/lang/String" "coder" "B" ∈ nt_tbl := nt_t6 125 rfl rfl
theorem wd_1009 : Cond.selects RX1 yX1_putFirstText yX1_putFirstText ∈ nt_tbl := nt_t0 0 rfl rfl
theorem wd_1010 : Cond.selects RX1 yX1_put yX1_put ∈ nt_tbl := nt_t0 1 rfl rfl
theorem wd_1011 : Cond.selects RX1 yX1_reads yX1_reads ∈ nt_tbl := nt_t0 2 rfl rfl
theorem wd_1012 : Cond.selects RX1 yX1_step yX1_step ∈ nt_tbl := nt_t0 3 rfl rfl
theorem wd_1013 : Cond.selects RX1 yX1_word yX1_word ∈ nt_tbl := nt_t0 4 rfl rfl
theorem wd_1014 : Cond.selects RX1 yX1_numeral yX1_numeral ∈ nt_tbl := nt_t0 5 rfl rfl
theorem wd_1015 : Cond.selects RX1 yX1_takes yX1_takes ∈ nt_tbl := nt_t0 6 rfl rfl
theorem wd_1016 : Cond.selects RX1 yX1_readsLevel yX1_readsLevel ∈ nt_tbl := nt_t0 7 rfl rfl
theorem wd_1017 : Cond.selects RX1 yX1_readsOpened yX1_readsOpened ∈ nt_tbl := nt_t0 8 rfl rfl
theorem wd_1018 : Cond.selects RX1 yX1_write yX1_write ∈ nt_tbl := nt_t0 9 rfl rfl
theorem wd_1019 : Cond.selects RX1 yX1_readsPlain yX1_readsPlain ∈ nt_tbl := nt_t0 10 rfl rfl
theorem wd_1020 : Cond.selects RX1 yX1_made yX1_made ∈ nt_tbl := nt_t0 11 rfl rfl
theorem wd_1021 : Cond.selects RX7 yX7_add yX7_add ∈ nt_tbl := nt_t0 12 rfl rfl
theorem wd_1022 : Cond.selects RX7 yX7_isFull yX7_isFull ∈ nt_tbl := nt_t0 13 rfl rfl
theorem wd_1023 : Cond.selects RX1 yX1_empty yX1_empty ∈ nt_tbl := nt_t0 14 rfl rfl
theorem wd_1024 : Cond.selects RX5 yX5_add yX5_add ∈ nt_tbl := nt_t0 15 rfl rfl
theorem wd_1025 : Cond.selects RX5 yX5_has yX5_has ∈ nt_tbl := nt_t0 16 rfl rfl
theorem wd_1026 : Cond.selects RX5 yX5_join yX5_join ∈ nt_tbl := nt_t0 17 rfl rfl
theorem wd_1027 : Cond.selects RX5 yX5_part yX5_part ∈ nt_tbl := nt_t0 18 rfl rfl
theorem wd_1028 : Cond.selects RX0 yX0_come yX0_come ∈ nt_tbl := nt_t0 19 rfl rfl
theorem wd_1029 : Cond.selects RX0 yX0_sit yX0_sit ∈ nt_tbl := nt_t0 20 rfl rfl
theorem wd_1030 : Cond.selects RX0 yX0_has yX0_has ∈ nt_tbl := nt_t0 21 rfl rfl
theorem wd_1031 : Cond.selects RX0 yX0_hear yX0_hear ∈ nt_tbl := nt_t0 22 rfl rfl
theorem wd_1032 : Cond.selects RX0 yX0_forget yX0_forget ∈ nt_tbl := nt_t0 23 rfl rfl
theorem wd_1033 : Cond.selects RX5 yX5_stays yX5_stays ∈ nt_tbl := nt_t0 24 rfl rfl
theorem wd_1034 : Cond.selects RX5 yX5_counts yX5_counts ∈ nt_tbl := nt_t0 25 rfl rfl
theorem wd_1035 : Cond.selects RX0 yX0_knows yX0_knows ∈ nt_tbl := nt_t0 26 rfl rfl
theorem wd_1036 : Cond.selects RX5 yX5_withTwins yX5_withTwins ∈ nt_tbl := nt_t0 27 rfl rfl
theorem wd_1037 : Cond.selects RX1 yX1_place yX1_place ∈ nt_tbl := nt_t0 28 rfl rfl
theorem wd_1038 : Cond.selects RX7 yX7_has yX7_has ∈ nt_tbl := nt_t0 29 rfl rfl
theorem wd_1039 : Cond.selects RX0 yX0_tellableIn yX0_tellableIn ∈ nt_tbl := nt_t0 30 rfl rfl
theorem wd_1040 : Cond.selects RX0 yX0_lookInto yX0_lookInto ∈ nt_tbl := nt_t0 31 rfl rfl
theorem wd_1041 : Cond.selects RX0 yX0_tellableOf yX0_tellableOf ∈ nt_tbl := nt_t0 32 rfl rfl
theorem wd_1042 : Cond.selects RX0 yX0_newToOthers yX0_newToOthers ∈ nt_tbl := nt_t0 33 rfl rfl
theorem wd_1043 : Cond.selects RX5 yX5_all yX5_all ∈ nt_tbl := nt_t0 34 rfl rfl
theorem wd_1044 : Cond.selects RX0 yX0_value yX0_value ∈ nt_tbl := nt_t0 35 rfl rfl
theorem wd_1045 : Cond.selects RX7 yX7_at yX7_at ∈ nt_tbl := nt_t0 36 rfl rfl
theorem wd_1046 : Cond.selects RX2 yX2_value yX2_value ∈ nt_tbl := nt_t0 37 rfl rfl
theorem wd_1047 : Cond.selects RX0 yX0_byWhom yX0_byWhom ∈ nt_tbl := nt_t0 38 rfl rfl
theorem wd_1048 : Cond.selects RX0 yX0_firstTeller yX0_firstTeller ∈ nt_tbl := nt_t0 39 rfl rfl
theorem wd_1049 : Cond.selects RX0 yX0_worthOf yX0_worthOf ∈ nt_tbl := nt_t0 40 rfl rfl
theorem wd_1050 : Cond.selects RX0 yX0_worthBy yX0_worthBy ∈ nt_tbl := nt_t0 41 rfl rfl
theorem wd_1051 : Cond.selects RX0 yX0_bestOf yX0_bestOf ∈ nt_tbl := nt_t0 42 rfl rfl
theorem wd_1052 : Cond.selects RX0 yX0_spend yX0_spend ∈ nt_tbl := nt_t0 43 rfl rfl
theorem wd_1053 : Cond.selects RX0 yX0_sleep yX0_sleep ∈ nt_tbl := nt_t0 44 rfl rfl
theorem wd_1054 : Cond.selects RX0 yX0_unheardIn yX0_unheardIn ∈ nt_tbl := nt_t0 45 rfl rfl
theorem wd_1055 : Cond.selects RX8 yX8_canTellAll yX8_canTellAll ∈ nt_tbl := nt_t0 46 rfl rfl
theorem wd_1056 : Cond.selects RX0 yX0_takeAll yX0_takeAll ∈ nt_tbl := nt_t0 47 rfl rfl
theorem wd_1057 : Cond.selects RX0 yX0_goBackTo yX0_goBackTo ∈ nt_tbl := nt_t0 48 rfl rfl
theorem wd_1058 : Cond.selects RX3 yX3_waysOver yX3_waysOver ∈ nt_tbl := nt_t0 49 rfl rfl
theorem wd_1059 : Cond.selects RX3 yX3_search yX3_search ∈ nt_tbl := nt_t0 50 rfl rfl
theorem wd_1060 : Cond.selects RX3 yX3_prepare yX3_prepare ∈ nt_tbl := nt_t0 51 rfl rfl
theorem wd_1061 : Cond.selects RX3 yX3_awakeOf yX3_awakeOf ∈ nt_tbl := nt_t0 52 rfl rfl
theorem wd_1062 : Cond.selects RX3 yX3_housesWithStory yX3_housesWithStory ∈ nt_tbl := nt_t0 53 rfl rfl
theorem wd_1063 : Cond.selects RX3 yX3_fillHouses yX3_fillHouses ∈ nt_tbl := nt_t0 54 rfl rfl
theorem wd_1064 : Cond.selects RX3 yX3_nextWay yX3_nextWay ∈ nt_tbl := nt_t0 55 rfl rfl
theorem wd_1065 : Cond.selects RX0 yX0_tellableBy yX0_tellableBy ∈ nt_tbl := nt_t0 56 rfl rfl
theorem wd_1066 : Cond.selects RX4 yX4_has yX4_has ∈ nt_tbl := nt_t0 57 rfl rfl
theorem wd_1067 : Cond.selects RX4 yX4_isMissing yX4_isMissing ∈ nt_tbl := nt_t0 58 rfl rfl
theorem wd_1068 : Cond.selects RX4 yX4_at yX4_at ∈ nt_tbl := nt_t0 59 rfl rfl
theorem wd_1069 : Cond.selects RX4 yX4_lay yX4_lay ∈ nt_tbl := nt_t0 60 rfl rfl
theorem wd_1070 : Cond.selects RX4 yX4_reaches yX4_reaches ∈ nt_tbl := nt_t0 61 rfl rfl
theorem wd_1071 : Cond.selects RX4 yX4_write yX4_write ∈ nt_tbl := nt_t0 62 rfl rfl
theorem wd_1072 : Cond.selects RX4 yX4_hasRun yX4_hasRun ∈ nt_tbl := nt_t0 63 rfl rfl
theorem wd_1073 : Cond.selects RX4 yX4_carry yX4_carry ∈ nt_tbl := nt_t0 64 rfl rfl
theorem wd_1074 : Cond.selects RX5 yX5_isUnder yX5_isUnder ∈ nt_tbl := nt_t0 65 rfl rfl
theorem wd_1075 : Cond.selects RX9 yX9_spell yX9_spell ∈ nt_tbl := nt_t0 66 rfl rfl
theorem wd_1076 : Cond.selects RX9 yX9_isStory yX9_isStory ∈ nt_tbl := nt_t0 67 rfl rfl
theorem wd_1077 : Cond.selects RX9 yX9_parts yX9_parts ∈ nt_tbl := nt_t0 68 rfl rfl
theorem wd_1078 : Cond.selects RX9 yX9_isPerson yX9_isPerson ∈ nt_tbl := nt_t0 69 rfl rfl
theorem wd_1079 : Cond.selects RX9 yX9_stays yX9_stays ∈ nt_tbl := nt_t0 70 rfl rfl
theorem wd_1080 : Cond.selects RX9 yX9_counts yX9_counts ∈ nt_tbl := nt_t0 71 rfl rfl
theorem wd_1081 : Cond.selects RX9 yX9_known yX9_known ∈ nt_tbl := nt_t0 72 rfl rfl
theorem wd_1082 : Cond.selects RX9 yX9_read yX9_read ∈ nt_tbl := nt_t0 73 rfl rfl
theorem wd_1083 : Cond.selects RX9 yX9_next yX9_next ∈ nt_tbl := nt_t0 74 rfl rfl
theorem wd_1084 : Cond.selects RX9 yX9_byteAt yX9_byteAt ∈ nt_tbl := nt_t0 75 rfl rfl
theorem wd_1085 : Cond.selects RX9 yX9_isWord yX9_isWord ∈ nt_tbl := nt_t0 76 rfl rfl
theorem wd_1086 : Cond.selects RX9 yX9_isLetter yX9_isLetter ∈ nt_tbl := nt_t0 77 rfl rfl
theorem wd_1087 : Cond.selects RX9 yX9_part yX9_part ∈ nt_tbl := nt_t0 78 rfl rfl
theorem wd_1088 : Cond.selects RX9 yX9_fail yX9_fail ∈ nt_tbl := nt_t0 79 rfl rfl
theorem wd_1089 : Cond.selects RX9 yX9_either yX9_either ∈ nt_tbl := nt_t0 80 rfl rfl
theorem wd_1090 : Cond.selects RX9 yX9_both yX9_both ∈ nt_tbl := nt_t0 81 rfl rfl
theorem wd_1091 : Cond.selects RX9 yX9_not yX9_not ∈ nt_tbl := nt_t0 82 rfl rfl
theorem wd_1092 : Cond.selects RX9 yX9_opens yX9_opens ∈ nt_tbl := nt_t0 83 rfl rfl
theorem wd_1093 : Cond.selects RX9 yX9_added yX9_added ∈ nt_tbl := nt_t0 84 rfl rfl
theorem wd_1094 : Cond.selects RX9 yX9_term yX9_term ∈ nt_tbl := nt_t0 85 rfl rfl
theorem wd_1095 : Cond.selects RX9 yX9_atom yX9_atom ∈ nt_tbl := nt_t0 86 rfl rfl
theorem wd_1096 : Cond.selects RX9 yX9_isSign yX9_isSign ∈ nt_tbl := nt_t0 87 rfl rfl
theorem wd_1097 : Cond.selects RX9 yX9_name yX9_name ∈ nt_tbl := nt_t0 88 rfl rfl
theorem wd_1098 : Cond.selects RX9 yX9_allMay yX9_allMay ∈ nt_tbl := nt_t0 89 rfl rfl
theorem wd_1099 : Cond.selects RX9 yX9_teller yX9_teller ∈ nt_tbl := nt_t0 90 rfl rfl
theorem wd_1100 : Cond.selects RX9 yX9_sitting yX9_sitting ∈ nt_tbl := nt_t0 91 rfl rfl
theorem wd_1101 : Cond.selects RX9 yX9_mayTell yX9_mayTell ∈ nt_tbl := nt_t0 92 rfl rfl
theorem wd_1102 : Cond.selects RX9 yX9_knowers yX9_knowers ∈ nt_tbl := nt_t0 93 rfl rfl
theorem wd_1103 : Cond.selects RX9 yX9_says yX9_says ∈ nt_tbl := nt_t0 94 rfl rfl
theorem wd_1104 : Cond.selects RX9 yX9_worthBy yX9_worthBy ∈ nt_tbl := nt_t0 95 rfl rfl
theorem wd_1105 : Cond.selects RX9 yX9_best yX9_best ∈ nt_tbl := nt_t0 96 rfl rfl
theorem wd_1106 : Cond.selects RX9 yX9_tellIn yX9_tellIn ∈ nt_tbl := nt_t0 97 rfl rfl
theorem wd_1107 : Cond.selects RX9 yX9_laysAside yX9_laysAside ∈ nt_tbl := nt_t0 98 rfl rfl
theorem wd_1108 : Cond.selects RX9 yX9_canAll yX9_canAll ∈ nt_tbl := nt_t0 99 rfl rfl
theorem wd_1109 : Cond.selects RX9 yX9_laysBack yX9_laysBack ∈ nt_tbl := nt_t0 100 rfl rfl
theorem wd_1110 : Cond.selects RX9 yX9_housesWith yX9_housesWith ∈ nt_tbl := nt_t0 101 rfl rfl
theorem wd_1111 : Cond.selects RX9 yX9_anyMay yX9_anyMay ∈ nt_tbl := nt_t0 102 rfl rfl
theorem wd_1112 : Cond.selects RX9 yX9_isTired yX9_isTired ∈ nt_tbl := nt_t0 103 rfl rfl
theorem inX0 : ∀ q ∈ u_ws RX0 TX0 14, q ∈ nt_tbl := by
  have h : ∀ q ∈ ([u_lay RX0 TX0 0, u_lay RX0 TX0 1, u_lay RX0 TX0 2, u_lay RX0 TX0 3, u_lay RX0 TX0 4, u_lay RX0 TX0 5, u_lay RX0 TX0 6, u_lay RX0 TX0 7, u_lay RX0 TX0 8, u_lay RX0 TX0 9, u_lay RX0 TX0 10, u_lay RX0 TX0 11, u_lay RX0 TX0 12, u_lay RX0 TX0 13] : List Cond), q ∈ nt_tbl := List.forall_mem_cons.mpr ⟨wd_264, List.forall_mem_cons.mpr ⟨wd_265, List.forall_mem_cons.mpr ⟨wd_266, List.forall_mem_cons.mpr ⟨wd_267, List.forall_mem_cons.mpr ⟨wd_268, List.forall_mem_cons.mpr ⟨wd_269, List.forall_mem_cons.mpr ⟨wd_270, List.forall_mem_cons.mpr ⟨wd_271, List.forall_mem_cons.mpr ⟨wd_272, List.forall_mem_cons.mpr ⟨wd_273, List.forall_mem_cons.mpr ⟨wd_274, List.forall_mem_cons.mpr ⟨wd_275, List.forall_mem_cons.mpr ⟨wd_276, List.forall_mem_cons.mpr ⟨wd_277, List.forall_mem_nil _⟩⟩⟩⟩⟩⟩⟩⟩⟩⟩⟩⟩⟩⟩
  exact h
theorem inX1 : ∀ q ∈ u_ws RX1 TX1 9, q ∈ nt_tbl := by
  have h : ∀ q ∈ ([u_lay RX1 TX1 0, u_lay RX1 TX1 1, u_lay RX1 TX1 2, u_lay RX1 TX1 3, u_lay RX1 TX1 4, u_lay RX1 TX1 5, u_lay RX1 TX1 6, u_lay RX1 TX1 7, u_lay RX1 TX1 8] : List Cond), q ∈ nt_tbl := List.forall_mem_cons.mpr ⟨wd_70, List.forall_mem_cons.mpr ⟨wd_71, List.forall_mem_cons.mpr ⟨wd_72, List.forall_mem_cons.mpr ⟨wd_73, List.forall_mem_cons.mpr ⟨wd_74, List.forall_mem_cons.mpr ⟨wd_75, List.forall_mem_cons.mpr ⟨wd_76, List.forall_mem_cons.mpr ⟨wd_77, List.forall_mem_cons.mpr ⟨wd_78, List.forall_mem_nil _⟩⟩⟩⟩⟩⟩⟩⟩⟩
  exact h
theorem inX2 : ∀ q ∈ u_ws RX2 TX2 3, q ∈ nt_tbl := by
  have h : ∀ q ∈ ([u_lay RX2 TX2 0, u_lay RX2 TX2 1, u_lay RX2 TX2 2] : List Cond), q ∈ nt_tbl := List.forall_mem_cons.mpr ⟨wd_234, List.forall_mem_cons.mpr ⟨wd_235, List.forall_mem_cons.mpr ⟨wd_236, List.forall_mem_nil _⟩⟩⟩
  exact h
theorem inX3 : ∀ q ∈ u_ws RX3 TX3 9, q ∈ nt_tbl := by
  have h : ∀ q ∈ ([u_lay RX3 TX3 0, u_lay RX3 TX3 1, u_lay RX3 TX3 2, u_lay RX3 TX3 3, u_lay RX3 TX3 4, u_lay RX3 TX3 5, u_lay RX3 TX3 6, u_lay RX3 TX3 7, u_lay RX3 TX3 8] : List Cond), q ∈ nt_tbl := List.forall_mem_cons.mpr ⟨wd_292, List.forall_mem_cons.mpr ⟨wd_293, List.forall_mem_cons.mpr ⟨wd_294, List.forall_mem_cons.mpr ⟨wd_295, List.forall_mem_cons.mpr ⟨wd_296, List.forall_mem_cons.mpr ⟨wd_297, List.forall_mem_cons.mpr ⟨wd_298, List.forall_mem_cons.mpr ⟨wd_299, List.forall_mem_cons.mpr ⟨wd_300, List.forall_mem_nil _⟩⟩⟩⟩⟩⟩⟩⟩⟩
  exact h
theorem inX4 : ∀ q ∈ u_ws RX4 TX4 3, q ∈ nt_tbl := by
  have h : ∀ q ∈ ([u_lay RX4 TX4 0, u_lay RX4 TX4 1, u_lay RX4 TX4 2] : List Cond), q ∈ nt_tbl := List.forall_mem_cons.mpr ⟨wd_309, List.forall_mem_cons.mpr ⟨wd_310, List.forall_mem_cons.mpr ⟨wd_311, List.forall_mem_nil _⟩⟩⟩
  exact h
theorem inX5 : ∀ q ∈ u_ws RX5 TX5 5, q ∈ nt_tbl := by
  have h : ∀ q ∈ ([u_lay RX5 TX5 0, u_lay RX5 TX5 1, u_lay RX5 TX5 2, u_lay RX5 TX5 3, u_lay RX5 TX5 4] : List Cond), q ∈ nt_tbl := List.forall_mem_cons.mpr ⟨wd_36, List.forall_mem_cons.mpr ⟨wd_37, List.forall_mem_cons.mpr ⟨wd_38, List.forall_mem_cons.mpr ⟨wd_39, List.forall_mem_cons.mpr ⟨wd_40, List.forall_mem_nil _⟩⟩⟩⟩⟩
  exact h
theorem inX7 : ∀ q ∈ u_ws RX7 TX7 4, q ∈ nt_tbl := by
  have h : ∀ q ∈ ([u_lay RX7 TX7 0, u_lay RX7 TX7 1, u_lay RX7 TX7 2, u_lay RX7 TX7 3] : List Cond), q ∈ nt_tbl := List.forall_mem_cons.mpr ⟨wd_52, List.forall_mem_cons.mpr ⟨wd_53, List.forall_mem_cons.mpr ⟨wd_54, List.forall_mem_cons.mpr ⟨wd_55, List.forall_mem_nil _⟩⟩⟩⟩
  exact h
theorem inX8 : ∀ q ∈ u_ws RX8 TX8 9, q ∈ nt_tbl := by
  have h : ∀ q ∈ ([u_lay RX8 TX8 0, u_lay RX8 TX8 1, u_lay RX8 TX8 2, u_lay RX8 TX8 3, u_lay RX8 TX8 4, u_lay RX8 TX8 5, u_lay RX8 TX8 6, u_lay RX8 TX8 7, u_lay RX8 TX8 8] : List Cond), q ∈ nt_tbl := List.forall_mem_cons.mpr ⟨wd_321, List.forall_mem_cons.mpr ⟨wd_322, List.forall_mem_cons.mpr ⟨wd_323, List.forall_mem_cons.mpr ⟨wd_324, List.forall_mem_cons.mpr ⟨wd_325, List.forall_mem_cons.mpr ⟨wd_326, List.forall_mem_cons.mpr ⟨wd_327, List.forall_mem_cons.mpr ⟨wd_328, List.forall_mem_cons.mpr ⟨wd_329, List.forall_mem_nil _⟩⟩⟩⟩⟩⟩⟩⟩⟩
  exact h
theorem inX9 : ∀ q ∈ u_ws RX9 TX9 51, q ∈ nt_tbl := by
  have h : ∀ q ∈ ([u_lay RX9 TX9 0, u_lay RX9 TX9 1, u_lay RX9 TX9 2, u_lay RX9 TX9 3, u_lay RX9 TX9 4, u_lay RX9 TX9 5, u_lay RX9 TX9 6, u_lay RX9 TX9 7, u_lay RX9 TX9 8, u_lay RX9 TX9 9, u_lay RX9 TX9 10, u_lay RX9 TX9 11, u_lay RX9 TX9 12, u_lay RX9 TX9 13, u_lay RX9 TX9 14, u_lay RX9 TX9 15, u_lay RX9 TX9 16, u_lay RX9 TX9 17, u_lay RX9 TX9 18, u_lay RX9 TX9 19, u_lay RX9 TX9 20, u_lay RX9 TX9 21, u_lay RX9 TX9 22, u_lay RX9 TX9 23, u_lay RX9 TX9 24, u_lay RX9 TX9 25, u_lay RX9 TX9 26, u_lay RX9 TX9 27, u_lay RX9 TX9 28, u_lay RX9 TX9 29, u_lay RX9 TX9 30, u_lay RX9 TX9 31, u_lay RX9 TX9 32, u_lay RX9 TX9 33, u_lay RX9 TX9 34, u_lay RX9 TX9 35, u_lay RX9 TX9 36, u_lay RX9 TX9 37, u_lay RX9 TX9 38, u_lay RX9 TX9 39, u_lay RX9 TX9 40, u_lay RX9 TX9 41, u_lay RX9 TX9 42, u_lay RX9 TX9 43, u_lay RX9 TX9 44, u_lay RX9 TX9 45, u_lay RX9 TX9 46, u_lay RX9 TX9 47, u_lay RX9 TX9 48, u_lay RX9 TX9 49, u_lay RX9 TX9 50] : List Cond), q ∈ nt_tbl := List.forall_mem_cons.mpr ⟨wd_673, List.forall_mem_cons.mpr ⟨wd_674, List.forall_mem_cons.mpr ⟨wd_675, List.forall_mem_cons.mpr ⟨wd_676, List.forall_mem_cons.mpr ⟨wd_677, List.forall_mem_cons.mpr ⟨wd_678, List.forall_mem_cons.mpr ⟨wd_679, List.forall_mem_cons.mpr ⟨wd_680, List.forall_mem_cons.mpr ⟨wd_681, List.forall_mem_cons.mpr ⟨wd_682, List.forall_mem_cons.mpr ⟨wd_683, List.forall_mem_cons.mpr ⟨wd_684, List.forall_mem_cons.mpr ⟨wd_685, List.forall_mem_cons.mpr ⟨wd_686, List.forall_mem_cons.mpr ⟨wd_687, List.forall_mem_cons.mpr ⟨wd_688, List.forall_mem_cons.mpr ⟨wd_689, List.forall_mem_cons.mpr ⟨wd_690, List.forall_mem_cons.mpr ⟨wd_691, List.forall_mem_cons.mpr ⟨wd_692, List.forall_mem_cons.mpr ⟨wd_693, List.forall_mem_cons.mpr ⟨wd_694, List.forall_mem_cons.mpr ⟨wd_695, List.forall_mem_cons.mpr ⟨wd_696, List.forall_mem_cons.mpr ⟨wd_697, List.forall_mem_cons.mpr ⟨wd_698, List.forall_mem_cons.mpr ⟨wd_699, List.forall_mem_cons.mpr ⟨wd_700, List.forall_mem_cons.mpr ⟨wd_701, List.forall_mem_cons.mpr ⟨wd_702, List.forall_mem_cons.mpr ⟨wd_703, List.forall_mem_cons.mpr ⟨wd_704, List.forall_mem_cons.mpr ⟨wd_705, List.forall_mem_cons.mpr ⟨wd_706, List.forall_mem_cons.mpr ⟨wd_707, List.forall_mem_cons.mpr ⟨wd_708, List.forall_mem_cons.mpr ⟨wd_709, List.forall_mem_cons.mpr ⟨wd_710, List.forall_mem_cons.mpr ⟨wd_711, List.forall_mem_cons.mpr ⟨wd_712, List.forall_mem_cons.mpr ⟨wd_713, List.forall_mem_cons.mpr ⟨wd_714, List.forall_mem_cons.mpr ⟨wd_715, List.forall_mem_cons.mpr ⟨wd_716, List.forall_mem_cons.mpr ⟨wd_717, List.forall_mem_cons.mpr ⟨wd_718, List.forall_mem_cons.mpr ⟨wd_719, List.forall_mem_cons.mpr ⟨wd_720, List.forall_mem_cons.mpr ⟨wd_721, List.forall_mem_cons.mpr ⟨wd_722, List.forall_mem_cons.mpr ⟨wd_723, List.forall_mem_nil _⟩⟩⟩⟩⟩⟩⟩⟩⟩⟩⟩⟩⟩⟩⟩⟩⟩⟩⟩⟩⟩⟩⟩⟩⟩⟩⟩⟩⟩⟩⟩⟩⟩⟩⟩⟩⟩⟩⟩⟩⟩⟩⟩⟩⟩⟩⟩⟩⟩⟩⟩
  exact h
end
section
theorem dX0_init_0 : decode cX0_init 0 = .ok (.aload_n 0, 1) := by decide +kernel
theorem dX0_init_1 : decode cX0_init 1 = .ok (.invokespecial 3, 3) := by decide +kernel
theorem dX0_init_4 : decode cX0_init 4 = .ok (.aload_n 0, 1) := by decide +kernel
theorem dX0_init_5 : decode cX0_init 5 = .ok (.bipush 9, 2) := by decide +kernel
theorem dX0_init_7 : decode cX0_init 7 = .ok (.newarray .int, 2) := by decide +kernel
theorem dX0_init_9 : decode cX0_init 9 = .ok (.putfield 9, 3) := by decide +kernel
theorem dX0_init_12 : decode cX0_init 12 = .ok (.aload_n 0, 1) := by decide +kernel
theorem dX0_init_13 : decode cX0_init 13 = .ok (.bipush 9, 2) := by decide +kernel
theorem dX0_init_15 : decode cX0_init 15 = .ok (.newarray .int, 2) := by decide +kernel
theorem dX0_init_17 : decode cX0_init 17 = .ok (.putfield 15, 3) := by decide +kernel
theorem dX0_init_20 : decode cX0_init 20 = .ok (.aload_n 0, 1) := by decide +kernel
theorem dX0_init_21 : decode cX0_init 21 = .ok (.bipush 9, 2) := by decide +kernel
theorem dX0_init_23 : decode cX0_init 23 = .ok (.newarray .int, 2) := by decide +kernel
theorem dX0_init_25 : decode cX0_init 25 = .ok (.putfield 18, 3) := by decide +kernel
theorem dX0_init_28 : decode cX0_init 28 = .ok (.aload_n 0, 1) := by decide +kernel
theorem dX0_init_29 : decode cX0_init 29 = .ok (.bipush 9, 2) := by decide +kernel
theorem dX0_init_31 : decode cX0_init 31 = .ok (.newarray .int, 2) := by decide +kernel
theorem dX0_init_33 : decode cX0_init 33 = .ok (.putfield 21, 3) := by decide +kernel
theorem dX0_init_36 : decode cX0_init 36 = .ok (.aload_n 0, 1) := by decide +kernel
theorem dX0_init_37 : decode cX0_init 37 = .ok (.bipush 72, 2) := by decide +kernel
theorem dX0_init_39 : decode cX0_init 39 = .ok (.newarray .int, 2) := by decide +kernel
theorem dX0_init_41 : decode cX0_init 41 = .ok (.putfield 24, 3) := by decide +kernel
theorem dX0_init_44 : decode cX0_init 44 = .ok (.aload_n 0, 1) := by decide +kernel
theorem dX0_init_45 : decode cX0_init 45 = .ok (.bipush 9, 2) := by decide +kernel
theorem dX0_init_47 : decode cX0_init 47 = .ok (.newarray .int, 2) := by decide +kernel
theorem dX0_init_49 : decode cX0_init 49 = .ok (.putfield 27, 3) := by decide +kernel
theorem dX0_init_52 : decode cX0_init 52 = .ok (.aload_n 0, 1) := by decide +kernel
theorem dX0_init_53 : decode cX0_init 53 = .ok (.aload_n 1, 1) := by decide +kernel
theorem dX0_init_54 : decode cX0_init 54 = .ok (.putfield 30, 3) := by decide +kernel
theorem dX0_init_57 : decode cX0_init 57 = .ok (.aload_n 0, 1) := by decide +kernel
theorem dX0_init_58 : decode cX0_init 58 = .ok (.aload_n 2, 1) := by decide +kernel
theorem dX0_init_59 : decode cX0_init 59 = .ok (.putfield 34, 3) := by decide +kernel
theorem dX0_init_62 : decode cX0_init 62 = .ok (.return_, 1) := by decide +kernel
theorem dX0_has_0 : decode cX0_has 0 = .ok (.iload_n 1, 1) := by decide +kernel
theorem dX0_has_1 : decode cX0_has 1 = .ok (.aload_n 0, 1) := by decide +kernel
theorem dX0_has_2 : decode cX0_has 2 = .ok (.getfield 38, 3) := by decide +kernel
theorem dX0_has_5 : decode cX0_has 5 = .ok (.invokestatic 42, 3) := by decide +kernel
theorem dX0_has_8 : decode cX0_has 8 = .ok (.ireturn, 1) := by decide +kernel
theorem dX0_come_0 : decode cX0_come 0 = .ok (.iload_n 1, 1) := by decide +kernel
theorem dX0_come_1 : decode cX0_come 1 = .ok (.sipush 400, 3) := by decide +kernel
theorem dX0_come_4 : decode cX0_come 4 = .ok (.invokestatic 42, 3) := by decide +kernel
theorem dX0_come_7 : decode cX0_come 7 = .ok (.ifCond .eq 13, 3) := by decide +kernel
theorem dX0_come_10 : decode cX0_come 10 = .ok (.iload_n 2, 1) := by decide +kernel
theorem dX0_come_11 : decode cX0_come 11 = .ok (.sipush 256, 3) := by decide +kernel
theorem dX0_come_14 : decode cX0_come 14 = .ok (.invokestatic 42, 3) := by decide +kernel
theorem dX0_come_17 : decode cX0_come 17 = .ok (.ifCond .ne 6, 3) := by decide +kernel
theorem dX0_come_20 : decode cX0_come 20 = .ok (.bipush (-2), 2) := by decide +kernel
theorem dX0_come_22 : decode cX0_come 22 = .ok (.ireturn, 1) := by decide +kernel
theorem dX0_come_23 : decode cX0_come 23 = .ok (.aload_n 0, 1) := by decide +kernel
theorem dX0_come_24 : decode cX0_come 24 = .ok (.getfield 38, 3) := by decide +kernel
theorem dX0_come_27 : decode cX0_come 27 = .ok (.bipush 8, 2) := by decide +kernel
theorem dX0_come_29 : decode cX0_come 29 = .ok (.if_icmp .lt 6, 3) := by decide +kernel
theorem dX0_come_32 : decode cX0_come 32 = .ok (.bipush (-4), 2) := by decide +kernel
theorem dX0_come_34 : decode cX0_come 34 = .ok (.ireturn, 1) := by decide +kernel
theorem dX0_come_35 : decode cX0_come 35 = .ok (.aload_n 0, 1) := by decide +kernel
theorem dX0_come_36 : decode cX0_come 36 = .ok (.iload_n 1, 1) := by decide +kernel
theorem dX0_come_37 : decode cX0_come 37 = .ok (.bipush 100, 2) := by decide +kernel
theorem dX0_come_39 : decode cX0_come 39 = .ok (.idiv, 1) := by decide +kernel
theorem dX0_come_40 : decode cX0_come 40 = .ok (.iload_n 1, 1) := by decide +kernel
theorem dX0_come_41 : decode cX0_come 41 = .ok (.bipush 100, 2) := by decide +kernel
theorem dX0_come_43 : decode cX0_come 43 = .ok (.irem, 1) := by decide +kernel
theorem dX0_come_44 : decode cX0_come 44 = .ok (.iload_n 2, 1) := by decide +kernel
theorem dX0_come_45 : decode cX0_come 45 = .ok (.invokevirtual 46, 3) := by decide +kernel
theorem dX0_come_48 : decode cX0_come 48 = .ok (.aload_n 0, 1) := by decide +kernel
theorem dX0_come_49 : decode cX0_come 49 = .ok (.getfield 38, 3) := by decide +kernel
theorem dX0_come_52 : decode cX0_come 52 = .ok (.iconst 1, 1) := by decide +kernel
theorem dX0_come_53 : decode cX0_come 53 = .ok (.isub, 1) := by decide +kernel
theorem dX0_come_54 : decode cX0_come 54 = .ok (.ireturn, 1) := by decide +kernel
theorem dX0_sit_0 : decode cX0_sit 0 = .ok (.aload_n 0, 1) := by decide +kernel
theorem dX0_sit_1 : decode cX0_sit 1 = .ok (.getfield 38, 3) := by decide +kernel
theorem dX0_sit_4 : decode cX0_sit 4 = .ok (.bipush 9, 2) := by decide +kernel
theorem dX0_sit_6 : decode cX0_sit 6 = .ok (.if_icmp .lt 4, 3) := by decide +kernel
theorem dX0_sit_9 : decode cX0_sit 9 = .ok (.return_, 1) := by decide +kernel
theorem dX0_sit_10 : decode cX0_sit 10 = .ok (.aload_n 0, 1) := by decide +kernel
theorem dX0_sit_11 : decode cX0_sit 11 = .ok (.getfield 9, 3) := by decide +kernel
theorem dX0_sit_14 : decode cX0_sit 14 = .ok (.aload_n 0, 1) := by decide +kernel
theorem dX0_sit_15 : decode cX0_sit 15 = .ok (.getfield 38, 3) := by decide +kernel
theorem dX0_sit_18 : decode cX0_sit 18 = .ok (.iload_n 1, 1) := by decide +kernel
theorem dX0_sit_19 : decode cX0_sit 19 = .ok (.iastore, 1) := by decide +kernel
theorem dX0_sit_20 : decode cX0_sit 20 = .ok (.aload_n 0, 1) := by decide +kernel
theorem dX0_sit_21 : decode cX0_sit 21 = .ok (.getfield 15, 3) := by decide +kernel
theorem dX0_sit_24 : decode cX0_sit 24 = .ok (.aload_n 0, 1) := by decide +kernel
theorem dX0_sit_25 : decode cX0_sit 25 = .ok (.getfield 38, 3) := by decide +kernel
theorem dX0_sit_28 : decode cX0_sit 28 = .ok (.iload_n 2, 1) := by decide +kernel
theorem dX0_sit_29 : decode cX0_sit 29 = .ok (.iastore, 1) := by decide +kernel
theorem dX0_sit_30 : decode cX0_sit 30 = .ok (.aload_n 0, 1) := by decide +kernel
theorem dX0_sit_31 : decode cX0_sit 31 = .ok (.getfield 18, 3) := by decide +kernel
theorem dX0_sit_34 : decode cX0_sit 34 = .ok (.aload_n 0, 1) := by decide +kernel
theorem dX0_sit_35 : decode cX0_sit 35 = .ok (.getfield 38, 3) := by decide +kernel
theorem dX0_sit_38 : decode cX0_sit 38 = .ok (.iload_n 3, 1) := by decide +kernel
theorem dX0_sit_39 : decode cX0_sit 39 = .ok (.iastore, 1) := by decide +kernel
theorem dX0_sit_40 : decode cX0_sit 40 = .ok (.aload_n 0, 1) := by decide +kernel
theorem dX0_sit_41 : decode cX0_sit 41 = .ok (.getfield 21, 3) := by decide +kernel
theorem dX0_sit_44 : decode cX0_sit 44 = .ok (.aload_n 0, 1) := by decide +kernel
theorem dX0_sit_45 : decode cX0_sit 45 = .ok (.getfield 38, 3) := by decide +kernel
theorem dX0_sit_48 : decode cX0_sit 48 = .ok (.iconst 0, 1) := by decide +kernel
theorem dX0_sit_49 : decode cX0_sit 49 = .ok (.iastore, 1) := by decide +kernel
theorem dX0_sit_50 : decode cX0_sit 50 = .ok (.aload_n 0, 1) := by decide +kernel
theorem dX0_sit_51 : decode cX0_sit 51 = .ok (.dup, 1) := by decide +kernel
theorem dX0_sit_52 : decode cX0_sit 52 = .ok (.getfield 38, 3) := by decide +kernel
theorem dX0_sit_55 : decode cX0_sit 55 = .ok (.iconst 1, 1) := by decide +kernel
theorem dX0_sit_56 : decode cX0_sit 56 = .ok (.iadd, 1) := by decide +kernel
theorem dX0_sit_57 : decode cX0_sit 57 = .ok (.putfield 38, 3) := by decide +kernel
theorem dX0_sit_60 : decode cX0_sit 60 = .ok (.return_, 1) := by decide +kernel
theorem dX0_takeAll_0 : decode cX0_takeAll 0 = .ok (.aload_n 0, 1) := by decide +kernel
theorem dX0_takeAll_1 : decode cX0_takeAll 1 = .ok (.aload_n 1, 1) := by decide +kernel
theorem dX0_takeAll_2 : decode cX0_takeAll 2 = .ok (.getfield 38, 3) := by decide +kernel
theorem dX0_takeAll_5 : decode cX0_takeAll 5 = .ok (.putfield 38, 3) := by decide +kernel
theorem dX0_takeAll_8 : decode cX0_takeAll 8 = .ok (.aload_n 1, 1) := by decide +kernel
theorem dX0_takeAll_9 : decode cX0_takeAll 9 = .ok (.getfield 15, 3) := by decide +kernel
theorem dX0_takeAll_12 : decode cX0_takeAll 12 = .ok (.iconst 0, 1) := by decide +kernel
theorem dX0_takeAll_13 : decode cX0_takeAll 13 = .ok (.aload_n 0, 1) := by decide +kernel
theorem dX0_takeAll_14 : decode cX0_takeAll 14 = .ok (.getfield 15, 3) := by decide +kernel
theorem dX0_takeAll_17 : decode cX0_takeAll 17 = .ok (.iconst 0, 1) := by decide +kernel
theorem dX0_takeAll_18 : decode cX0_takeAll 18 = .ok (.aload_n 0, 1) := by decide +kernel
theorem dX0_takeAll_19 : decode cX0_takeAll 19 = .ok (.getfield 38, 3) := by decide +kernel
theorem dX0_takeAll_22 : decode cX0_takeAll 22 = .ok (.invokestatic 50, 3) := by decide +kernel
theorem dX0_takeAll_25 : decode cX0_takeAll 25 = .ok (.aload_n 1, 1) := by decide +kernel
theorem dX0_takeAll_26 : decode cX0_takeAll 26 = .ok (.getfield 18, 3) := by decide +kernel
theorem dX0_takeAll_29 : decode cX0_takeAll 29 = .ok (.iconst 0, 1) := by decide +kernel
theorem dX0_takeAll_30 : decode cX0_takeAll 30 = .ok (.aload_n 0, 1) := by decide +kernel
theorem dX0_takeAll_31 : decode cX0_takeAll 31 = .ok (.getfield 18, 3) := by decide +kernel
theorem dX0_takeAll_34 : decode cX0_takeAll 34 = .ok (.iconst 0, 1) := by decide +kernel
theorem dX0_takeAll_35 : decode cX0_takeAll 35 = .ok (.aload_n 0, 1) := by decide +kernel
theorem dX0_takeAll_36 : decode cX0_takeAll 36 = .ok (.getfield 38, 3) := by decide +kernel
theorem dX0_takeAll_39 : decode cX0_takeAll 39 = .ok (.invokestatic 50, 3) := by decide +kernel
theorem dX0_takeAll_42 : decode cX0_takeAll 42 = .ok (.aload_n 0, 1) := by decide +kernel
theorem dX0_takeAll_43 : decode cX0_takeAll 43 = .ok (.aload_n 1, 1) := by decide +kernel
theorem dX0_takeAll_44 : decode cX0_takeAll 44 = .ok (.invokevirtual 56, 3) := by decide +kernel
theorem dX0_takeAll_47 : decode cX0_takeAll 47 = .ok (.return_, 1) := by decide +kernel
theorem dX0_goBackTo_0 : decode cX0_goBackTo 0 = .ok (.aload_n 1, 1) := by decide +kernel
theorem dX0_goBackTo_1 : decode cX0_goBackTo 1 = .ok (.getfield 9, 3) := by decide +kernel
theorem dX0_goBackTo_4 : decode cX0_goBackTo 4 = .ok (.iconst 0, 1) := by decide +kernel
theorem dX0_goBackTo_5 : decode cX0_goBackTo 5 = .ok (.aload_n 0, 1) := by decide +kernel
theorem dX0_goBackTo_6 : decode cX0_goBackTo 6 = .ok (.getfield 9, 3) := by decide +kernel
theorem dX0_goBackTo_9 : decode cX0_goBackTo 9 = .ok (.iconst 0, 1) := by decide +kernel
theorem dX0_goBackTo_10 : decode cX0_goBackTo 10 = .ok (.aload_n 1, 1) := by decide +kernel
theorem dX0_goBackTo_11 : decode cX0_goBackTo 11 = .ok (.getfield 38, 3) := by decide +kernel
theorem dX0_goBackTo_14 : decode cX0_goBackTo 14 = .ok (.invokestatic 50, 3) := by decide +kernel
theorem dX0_goBackTo_17 : decode cX0_goBackTo 17 = .ok (.aload_n 1, 1) := by decide +kernel
theorem dX0_goBackTo_18 : decode cX0_goBackTo 18 = .ok (.getfield 21, 3) := by decide +kernel
theorem dX0_goBackTo_21 : decode cX0_goBackTo 21 = .ok (.iconst 0, 1) := by decide +kernel
theorem dX0_goBackTo_22 : decode cX0_goBackTo 22 = .ok (.aload_n 0, 1) := by decide +kernel
theorem dX0_goBackTo_23 : decode cX0_goBackTo 23 = .ok (.getfield 21, 3) := by decide +kernel
theorem dX0_goBackTo_26 : decode cX0_goBackTo 26 = .ok (.iconst 0, 1) := by decide +kernel
theorem dX0_goBackTo_27 : decode cX0_goBackTo 27 = .ok (.aload_n 1, 1) := by decide +kernel
theorem dX0_goBackTo_28 : decode cX0_goBackTo 28 = .ok (.getfield 38, 3) := by decide +kernel
theorem dX0_goBackTo_31 : decode cX0_goBackTo 31 = .ok (.invokestatic 50, 3) := by decide +kernel
theorem dX0_goBackTo_34 : decode cX0_goBackTo 34 = .ok (.aload_n 1, 1) := by decide +kernel
theorem dX0_goBackTo_35 : decode cX0_goBackTo 35 = .ok (.getfield 24, 3) := by decide +kernel
theorem dX0_goBackTo_38 : decode cX0_goBackTo 38 = .ok (.iconst 0, 1) := by decide +kernel
theorem dX0_goBackTo_39 : decode cX0_goBackTo 39 = .ok (.aload_n 0, 1) := by decide +kernel
theorem dX0_goBackTo_40 : decode cX0_goBackTo 40 = .ok (.getfield 24, 3) := by decide +kernel
theorem dX0_goBackTo_43 : decode cX0_goBackTo 43 = .ok (.iconst 0, 1) := by decide +kernel
theorem dX0_goBackTo_44 : decode cX0_goBackTo 44 = .ok (.aload_n 1, 1) := by decide +kernel
theorem dX0_goBackTo_45 : decode cX0_goBackTo 45 = .ok (.getfield 38, 3) := by decide +kernel
theorem dX0_goBackTo_48 : decode cX0_goBackTo 48 = .ok (.bipush 8, 2) := by decide +kernel
theorem dX0_goBackTo_50 : decode cX0_goBackTo 50 = .ok (.imul, 1) := by decide +kernel
theorem dX0_goBackTo_51 : decode cX0_goBackTo 51 = .ok (.invokestatic 50, 3) := by decide +kernel
theorem dX0_goBackTo_54 : decode cX0_goBackTo 54 = .ok (.aload_n 0, 1) := by decide +kernel
theorem dX0_goBackTo_55 : decode cX0_goBackTo 55 = .ok (.aload_n 1, 1) := by decide +kernel
theorem dX0_goBackTo_56 : decode cX0_goBackTo 56 = .ok (.getfield 60, 3) := by decide +kernel
theorem dX0_goBackTo_59 : decode cX0_goBackTo 59 = .ok (.putfield 60, 3) := by decide +kernel
theorem dX0_goBackTo_62 : decode cX0_goBackTo 62 = .ok (.aload_n 0, 1) := by decide +kernel
theorem dX0_goBackTo_63 : decode cX0_goBackTo 63 = .ok (.aload_n 1, 1) := by decide +kernel
theorem dX0_goBackTo_64 : decode cX0_goBackTo 64 = .ok (.getfield 63, 3) := by decide +kernel
theorem dX0_goBackTo_67 : decode cX0_goBackTo 67 = .ok (.putfield 63, 3) := by decide +kernel
theorem dX0_goBackTo_70 : decode cX0_goBackTo 70 = .ok (.return_, 1) := by decide +kernel
theorem dX0_hear_0 : decode cX0_hear 0 = .ok (.aload_n 0, 1) := by decide +kernel
theorem dX0_hear_1 : decode cX0_hear 1 = .ok (.getfield 21, 3) := by decide +kernel
theorem dX0_hear_4 : decode cX0_hear 4 = .ok (.iload_n 1, 1) := by decide +kernel
theorem dX0_hear_5 : decode cX0_hear 5 = .ok (.dup2, 1) := by decide +kernel
theorem dX0_hear_6 : decode cX0_hear 6 = .ok (.iaload, 1) := by decide +kernel
theorem dX0_hear_7 : decode cX0_hear 7 = .ok (.iconst 1, 1) := by decide +kernel
theorem dX0_hear_8 : decode cX0_hear 8 = .ok (.iload_n 2, 1) := by decide +kernel
theorem dX0_hear_9 : decode cX0_hear 9 = .ok (.ishl, 1) := by decide +kernel
theorem dX0_hear_10 : decode cX0_hear 10 = .ok (.ior, 1) := by decide +kernel
theorem dX0_hear_11 : decode cX0_hear 11 = .ok (.iastore, 1) := by decide +kernel
theorem dX0_hear_12 : decode cX0_hear 12 = .ok (.aload_n 0, 1) := by decide +kernel
theorem dX0_hear_13 : decode cX0_hear 13 = .ok (.getfield 24, 3) := by decide +kernel
theorem dX0_hear_16 : decode cX0_hear 16 = .ok (.iload_n 1, 1) := by decide +kernel
theorem dX0_hear_17 : decode cX0_hear 17 = .ok (.bipush 8, 2) := by decide +kernel
theorem dX0_hear_19 : decode cX0_hear 19 = .ok (.imul, 1) := by decide +kernel
theorem dX0_hear_20 : decode cX0_hear 20 = .ok (.iload_n 2, 1) := by decide +kernel
theorem dX0_hear_21 : decode cX0_hear 21 = .ok (.iadd, 1) := by decide +kernel
theorem dX0_hear_22 : decode cX0_hear 22 = .ok (.aload_n 0, 1) := by decide +kernel
theorem dX0_hear_23 : decode cX0_hear 23 = .ok (.getfield 60, 3) := by decide +kernel
theorem dX0_hear_26 : decode cX0_hear 26 = .ok (.iastore, 1) := by decide +kernel
theorem dX0_hear_27 : decode cX0_hear 27 = .ok (.return_, 1) := by decide +kernel
theorem dX0_forget_0 : decode cX0_forget 0 = .ok (.aload_n 0, 1) := by decide +kernel
theorem dX0_forget_1 : decode cX0_forget 1 = .ok (.getfield 21, 3) := by decide +kernel
theorem dX0_forget_4 : decode cX0_forget 4 = .ok (.iload_n 1, 1) := by decide +kernel
theorem dX0_forget_5 : decode cX0_forget 5 = .ok (.dup2, 1) := by decide +kernel
theorem dX0_forget_6 : decode cX0_forget 6 = .ok (.iaload, 1) := by decide +kernel
theorem dX0_forget_7 : decode cX0_forget 7 = .ok (.iconst 1, 1) := by decide +kernel
theorem dX0_forget_8 : decode cX0_forget 8 = .ok (.iload_n 2, 1) := by decide +kernel
theorem dX0_forget_9 : decode cX0_forget 9 = .ok (.ishl, 1) := by decide +kernel
theorem dX0_forget_10 : decode cX0_forget 10 = .ok (.iconst (-1), 1) := by decide +kernel
theorem dX0_forget_11 : decode cX0_forget 11 = .ok (.ixor, 1) := by decide +kernel
theorem dX0_forget_12 : decode cX0_forget 12 = .ok (.iand, 1) := by decide +kernel
theorem dX0_forget_13 : decode cX0_forget 13 = .ok (.iastore, 1) := by decide +kernel
theorem dX0_forget_14 : decode cX0_forget 14 = .ok (.return_, 1) := by decide +kernel
theorem dX0_knows_0 : decode cX0_knows 0 = .ok (.aload_n 0, 1) := by decide +kernel
theorem dX0_knows_1 : decode cX0_knows 1 = .ok (.getfield 30, 3) := by decide +kernel
theorem dX0_knows_4 : decode cX0_knows 4 = .ok (.aload_n 0, 1) := by decide +kernel
theorem dX0_knows_5 : decode cX0_knows 5 = .ok (.getfield 21, 3) := by decide +kernel
theorem dX0_knows_8 : decode cX0_knows 8 = .ok (.iload_n 1, 1) := by decide +kernel
theorem dX0_knows_9 : decode cX0_knows 9 = .ok (.iaload, 1) := by decide +kernel
theorem dX0_knows_10 : decode cX0_knows 10 = .ok (.invokevirtual 66, 3) := by decide +kernel
theorem dX0_knows_13 : decode cX0_knows 13 = .ok (.ireturn, 1) := by decide +kernel
theorem dX0_lookInto_0 : decode cX0_lookInto 0 = .ok (.aload_n 0, 1) := by decide +kernel
theorem dX0_lookInto_1 : decode cX0_lookInto 1 = .ok (.iconst 0, 1) := by decide +kernel
theorem dX0_lookInto_2 : decode cX0_lookInto 2 = .ok (.putfield 72, 3) := by decide +kernel
theorem dX0_lookInto_5 : decode cX0_lookInto 5 = .ok (.aload_n 0, 1) := by decide +kernel
theorem dX0_lookInto_6 : decode cX0_lookInto 6 = .ok (.iconst 0, 1) := by decide +kernel
theorem dX0_lookInto_7 : decode cX0_lookInto 7 = .ok (.putfield 75, 3) := by decide +kernel
theorem dX0_lookInto_10 : decode cX0_lookInto 10 = .ok (.aload_n 0, 1) := by decide +kernel
theorem dX0_lookInto_11 : decode cX0_lookInto 11 = .ok (.iconst 0, 1) := by decide +kernel
theorem dX0_lookInto_12 : decode cX0_lookInto 12 = .ok (.putfield 78, 3) := by decide +kernel
theorem dX0_lookInto_15 : decode cX0_lookInto 15 = .ok (.iconst 0, 1) := by decide +kernel
theorem dX0_lookInto_16 : decode cX0_lookInto 16 = .ok (.istore_n 2, 1) := by decide +kernel
theorem dX0_lookInto_17 : decode cX0_lookInto 17 = .ok (.iload_n 2, 1) := by decide +kernel
theorem dX0_lookInto_18 : decode cX0_lookInto 18 = .ok (.aload_n 0, 1) := by decide +kernel
theorem dX0_lookInto_19 : decode cX0_lookInto 19 = .ok (.getfield 38, 3) := by decide +kernel
theorem dX0_lookInto_22 : decode cX0_lookInto 22 = .ok (.if_icmp .ge 75, 3) := by decide +kernel
theorem dX0_lookInto_25 : decode cX0_lookInto 25 = .ok (.aload_n 0, 1) := by decide +kernel
theorem dX0_lookInto_26 : decode cX0_lookInto 26 = .ok (.getfield 9, 3) := by decide +kernel
theorem dX0_lookInto_29 : decode cX0_lookInto 29 = .ok (.iload_n 2, 1) := by decide +kernel
theorem dX0_lookInto_30 : decode cX0_lookInto 30 = .ok (.iaload, 1) := by decide +kernel
theorem dX0_lookInto_31 : decode cX0_lookInto 31 = .ok (.iload_n 1, 1) := by decide +kernel
theorem dX0_lookInto_32 : decode cX0_lookInto 32 = .ok (.if_icmp .ne 59, 3) := by decide +kernel
theorem dX0_lookInto_35 : decode cX0_lookInto 35 = .ok (.aload_n 0, 1) := by decide +kernel
theorem dX0_lookInto_36 : decode cX0_lookInto 36 = .ok (.dup, 1) := by decide +kernel
theorem dX0_lookInto_37 : decode cX0_lookInto 37 = .ok (.getfield 72, 3) := by decide +kernel
theorem dX0_lookInto_40 : decode cX0_lookInto 40 = .ok (.iconst 1, 1) := by decide +kernel
theorem dX0_lookInto_41 : decode cX0_lookInto 41 = .ok (.iadd, 1) := by decide +kernel
theorem dX0_lookInto_42 : decode cX0_lookInto 42 = .ok (.putfield 72, 3) := by decide +kernel
theorem dX0_lookInto_45 : decode cX0_lookInto 45 = .ok (.aload_n 0, 1) := by decide +kernel
theorem dX0_lookInto_46 : decode cX0_lookInto 46 = .ok (.getfield 27, 3) := by decide +kernel
theorem dX0_lookInto_49 : decode cX0_lookInto 49 = .ok (.iload_n 2, 1) := by decide +kernel
theorem dX0_lookInto_50 : decode cX0_lookInto 50 = .ok (.aload_n 0, 1) := by decide +kernel
theorem dX0_lookInto_51 : decode cX0_lookInto 51 = .ok (.iload_n 2, 1) := by decide +kernel
theorem dX0_lookInto_52 : decode cX0_lookInto 52 = .ok (.invokevirtual 81, 3) := by decide +kernel
theorem dX0_lookInto_55 : decode cX0_lookInto 55 = .ok (.iastore, 1) := by decide +kernel
theorem dX0_lookInto_56 : decode cX0_lookInto 56 = .ok (.aload_n 0, 1) := by decide +kernel
theorem dX0_lookInto_57 : decode cX0_lookInto 57 = .ok (.dup, 1) := by decide +kernel
theorem dX0_lookInto_58 : decode cX0_lookInto 58 = .ok (.getfield 78, 3) := by decide +kernel
theorem dX0_lookInto_61 : decode cX0_lookInto 61 = .ok (.aload_n 0, 1) := by decide +kernel
theorem dX0_lookInto_62 : decode cX0_lookInto 62 = .ok (.getfield 75, 3) := by decide +kernel
theorem dX0_lookInto_65 : decode cX0_lookInto 65 = .ok (.aload_n 0, 1) := by decide +kernel
theorem dX0_lookInto_66 : decode cX0_lookInto 66 = .ok (.getfield 27, 3) := by decide +kernel
theorem dX0_lookInto_69 : decode cX0_lookInto 69 = .ok (.iload_n 2, 1) := by decide +kernel
theorem dX0_lookInto_70 : decode cX0_lookInto 70 = .ok (.iaload, 1) := by decide +kernel
theorem dX0_lookInto_71 : decode cX0_lookInto 71 = .ok (.iand, 1) := by decide +kernel
theorem dX0_lookInto_72 : decode cX0_lookInto 72 = .ok (.ior, 1) := by decide +kernel
theorem dX0_lookInto_73 : decode cX0_lookInto 73 = .ok (.putfield 78, 3) := by decide +kernel
theorem dX0_lookInto_76 : decode cX0_lookInto 76 = .ok (.aload_n 0, 1) := by decide +kernel
theorem dX0_lookInto_77 : decode cX0_lookInto 77 = .ok (.dup, 1) := by decide +kernel
theorem dX0_lookInto_78 : decode cX0_lookInto 78 = .ok (.getfield 75, 3) := by decide +kernel
theorem dX0_lookInto_81 : decode cX0_lookInto 81 = .ok (.aload_n 0, 1) := by decide +kernel
theorem dX0_lookInto_82 : decode cX0_lookInto 82 = .ok (.getfield 27, 3) := by decide +kernel
theorem dX0_lookInto_85 : decode cX0_lookInto 85 = .ok (.iload_n 2, 1) := by decide +kernel
theorem dX0_lookInto_86 : decode cX0_lookInto 86 = .ok (.iaload, 1) := by decide +kernel
theorem dX0_lookInto_87 : decode cX0_lookInto 87 = .ok (.ior, 1) := by decide +kernel
theorem dX0_lookInto_88 : decode cX0_lookInto 88 = .ok (.putfield 75, 3) := by decide +kernel
theorem dX0_lookInto_91 : decode cX0_lookInto 91 = .ok (.iinc 2 1, 3) := by decide +kernel
theorem dX0_lookInto_94 : decode cX0_lookInto 94 = .ok (.goto (-77), 3) := by decide +kernel
theorem dX0_lookInto_97 : decode cX0_lookInto 97 = .ok (.return_, 1) := by decide +kernel
theorem dX0_newToOthers_0 : decode cX0_newToOthers 0 = .ok (.aload_n 0, 1) := by decide +kernel
theorem dX0_newToOthers_1 : decode cX0_newToOthers 1 = .ok (.getfield 30, 3) := by decide +kernel
theorem dX0_newToOthers_4 : decode cX0_newToOthers 4 = .ok (.invokevirtual 84, 3) := by decide +kernel
theorem dX0_newToOthers_7 : decode cX0_newToOthers 7 = .ok (.aload_n 0, 1) := by decide +kernel
theorem dX0_newToOthers_8 : decode cX0_newToOthers 8 = .ok (.getfield 78, 3) := by decide +kernel
theorem dX0_newToOthers_11 : decode cX0_newToOthers 11 = .ok (.iconst (-1), 1) := by decide +kernel
theorem dX0_newToOthers_12 : decode cX0_newToOthers 12 = .ok (.ixor, 1) := by decide +kernel
theorem dX0_newToOthers_13 : decode cX0_newToOthers 13 = .ok (.iand, 1) := by decide +kernel
theorem dX0_newToOthers_14 : decode cX0_newToOthers 14 = .ok (.aload_n 0, 1) := by decide +kernel
theorem dX0_newToOthers_15 : decode cX0_newToOthers 15 = .ok (.getfield 75, 3) := by decide +kernel
theorem dX0_newToOthers_18 : decode cX0_newToOthers 18 = .ok (.aload_n 0, 1) := by decide +kernel
theorem dX0_newToOthers_19 : decode cX0_newToOthers 19 = .ok (.getfield 27, 3) := by decide +kernel
theorem dX0_newToOthers_22 : decode cX0_newToOthers 22 = .ok (.iload_n 1, 1) := by decide +kernel
theorem dX0_newToOthers_23 : decode cX0_newToOthers 23 = .ok (.iaload, 1) := by decide +kernel
theorem dX0_newToOthers_24 : decode cX0_newToOthers 24 = .ok (.iconst (-1), 1) := by decide +kernel
theorem dX0_newToOthers_25 : decode cX0_newToOthers 25 = .ok (.ixor, 1) := by decide +kernel
theorem dX0_newToOthers_26 : decode cX0_newToOthers 26 = .ok (.iand, 1) := by decide +kernel
theorem dX0_newToOthers_27 : decode cX0_newToOthers 27 = .ok (.iconst (-1), 1) := by decide +kernel
theorem dX0_newToOthers_28 : decode cX0_newToOthers 28 = .ok (.ixor, 1) := by decide +kernel
theorem dX0_newToOthers_29 : decode cX0_newToOthers 29 = .ok (.iand, 1) := by decide +kernel
theorem dX0_newToOthers_30 : decode cX0_newToOthers 30 = .ok (.ireturn, 1) := by decide +kernel
theorem dX0_tellableOf_0 : decode cX0_tellableOf 0 = .ok (.aload_n 0, 1) := by decide +kernel
theorem dX0_tellableOf_1 : decode cX0_tellableOf 1 = .ok (.getfield 72, 3) := by decide +kernel
theorem dX0_tellableOf_4 : decode cX0_tellableOf 4 = .ok (.iconst 2, 1) := by decide +kernel
theorem dX0_tellableOf_5 : decode cX0_tellableOf 5 = .ok (.if_icmp .ge 5, 3) := by decide +kernel
theorem dX0_tellableOf_8 : decode cX0_tellableOf 8 = .ok (.iconst 0, 1) := by decide +kernel
theorem dX0_tellableOf_9 : decode cX0_tellableOf 9 = .ok (.ireturn, 1) := by decide +kernel
theorem dX0_tellableOf_10 : decode cX0_tellableOf 10 = .ok (.iload_n 2, 1) := by decide +kernel
theorem dX0_tellableOf_11 : decode cX0_tellableOf 11 = .ok (.aload_n 0, 1) := by decide +kernel
theorem dX0_tellableOf_12 : decode cX0_tellableOf 12 = .ok (.getfield 18, 3) := by decide +kernel
theorem dX0_tellableOf_15 : decode cX0_tellableOf 15 = .ok (.iload_n 1, 1) := by decide +kernel
theorem dX0_tellableOf_16 : decode cX0_tellableOf 16 = .ok (.iaload, 1) := by decide +kernel
theorem dX0_tellableOf_17 : decode cX0_tellableOf 17 = .ok (.iand, 1) := by decide +kernel
theorem dX0_tellableOf_18 : decode cX0_tellableOf 18 = .ok (.aload_n 0, 1) := by decide +kernel
theorem dX0_tellableOf_19 : decode cX0_tellableOf 19 = .ok (.iload_n 1, 1) := by decide +kernel
theorem dX0_tellableOf_20 : decode cX0_tellableOf 20 = .ok (.invokevirtual 88, 3) := by decide +kernel
theorem dX0_tellableOf_23 : decode cX0_tellableOf 23 = .ok (.iand, 1) := by decide +kernel
theorem dX0_tellableOf_24 : decode cX0_tellableOf 24 = .ok (.istore_n 3, 1) := by decide +kernel
theorem dX0_tellableOf_25 : decode cX0_tellableOf 25 = .ok (.iconst 0, 1) := by decide +kernel
theorem dX0_tellableOf_26 : decode cX0_tellableOf 26 = .ok (.istore 4, 2) := by decide +kernel
theorem dX0_tellableOf_28 : decode cX0_tellableOf 28 = .ok (.iload 4, 2) := by decide +kernel
theorem dX0_tellableOf_30 : decode cX0_tellableOf 30 = .ok (.aload_n 0, 1) := by decide +kernel
theorem dX0_tellableOf_31 : decode cX0_tellableOf 31 = .ok (.getfield 30, 3) := by decide +kernel
theorem dX0_tellableOf_34 : decode cX0_tellableOf 34 = .ok (.getfield 91, 3) := by decide +kernel
theorem dX0_tellableOf_37 : decode cX0_tellableOf 37 = .ok (.if_icmp .ge 43, 3) := by decide +kernel
theorem dX0_tellableOf_40 : decode cX0_tellableOf 40 = .ok (.iload_n 3, 1) := by decide +kernel
theorem dX0_tellableOf_41 : decode cX0_tellableOf 41 = .ok (.iload 4, 2) := by decide +kernel
theorem dX0_tellableOf_43 : decode cX0_tellableOf 43 = .ok (.ishr, 1) := by decide +kernel
theorem dX0_tellableOf_44 : decode cX0_tellableOf 44 = .ok (.iconst 1, 1) := by decide +kernel
theorem dX0_tellableOf_45 : decode cX0_tellableOf 45 = .ok (.iand, 1) := by decide +kernel
theorem dX0_tellableOf_46 : decode cX0_tellableOf 46 = .ok (.iconst 1, 1) := by decide +kernel
theorem dX0_tellableOf_47 : decode cX0_tellableOf 47 = .ok (.if_icmp .ne 27, 3) := by decide +kernel
theorem dX0_tellableOf_50 : decode cX0_tellableOf 50 = .ok (.aload_n 0, 1) := by decide +kernel
theorem dX0_tellableOf_51 : decode cX0_tellableOf 51 = .ok (.iconst 2, 1) := by decide +kernel
theorem dX0_tellableOf_52 : decode cX0_tellableOf 52 = .ok (.iload_n 1, 1) := by decide +kernel
theorem dX0_tellableOf_53 : decode cX0_tellableOf 53 = .ok (.iload 4, 2) := by decide +kernel
theorem dX0_tellableOf_55 : decode cX0_tellableOf 55 = .ok (.aload_n 0, 1) := by decide +kernel
theorem dX0_tellableOf_56 : decode cX0_tellableOf 56 = .ok (.getfield 72, 3) := by decide +kernel
theorem dX0_tellableOf_59 : decode cX0_tellableOf 59 = .ok (.invokevirtual 92, 3) := by decide +kernel
theorem dX0_tellableOf_62 : decode cX0_tellableOf 62 = .ok (.ifCond .eq 12, 3) := by decide +kernel
theorem dX0_tellableOf_65 : decode cX0_tellableOf 65 = .ok (.iload_n 3, 1) := by decide +kernel
theorem dX0_tellableOf_66 : decode cX0_tellableOf 66 = .ok (.iconst 1, 1) := by decide +kernel
theorem dX0_tellableOf_67 : decode cX0_tellableOf 67 = .ok (.iload 4, 2) := by decide +kernel
theorem dX0_tellableOf_69 : decode cX0_tellableOf 69 = .ok (.ishl, 1) := by decide +kernel
theorem dX0_tellableOf_70 : decode cX0_tellableOf 70 = .ok (.iconst (-1), 1) := by decide +kernel
theorem dX0_tellableOf_71 : decode cX0_tellableOf 71 = .ok (.ixor, 1) := by decide +kernel
theorem dX0_tellableOf_72 : decode cX0_tellableOf 72 = .ok (.iand, 1) := by decide +kernel
theorem dX0_tellableOf_73 : decode cX0_tellableOf 73 = .ok (.istore_n 3, 1) := by decide +kernel
theorem dX0_tellableOf_74 : decode cX0_tellableOf 74 = .ok (.iinc 4 1, 3) := by decide +kernel
theorem dX0_tellableOf_77 : decode cX0_tellableOf 77 = .ok (.goto (-49), 3) := by decide +kernel
theorem dX0_tellableOf_80 : decode cX0_tellableOf 80 = .ok (.iload_n 3, 1) := by decide +kernel
theorem dX0_tellableOf_81 : decode cX0_tellableOf 81 = .ok (.ireturn, 1) := by decide +kernel
theorem dX0_tellableBy_0 : decode cX0_tellableBy 0 = .ok (.aload_n 0, 1) := by decide +kernel
theorem dX0_tellableBy_1 : decode cX0_tellableBy 1 = .ok (.aload_n 0, 1) := by decide +kernel
theorem dX0_tellableBy_2 : decode cX0_tellableBy 2 = .ok (.getfield 9, 3) := by decide +kernel
theorem dX0_tellableBy_5 : decode cX0_tellableBy 5 = .ok (.iload_n 1, 1) := by decide +kernel
theorem dX0_tellableBy_6 : decode cX0_tellableBy 6 = .ok (.iaload, 1) := by decide +kernel
theorem dX0_tellableBy_7 : decode cX0_tellableBy 7 = .ok (.invokevirtual 96, 3) := by decide +kernel
theorem dX0_tellableBy_10 : decode cX0_tellableBy 10 = .ok (.aload_n 0, 1) := by decide +kernel
theorem dX0_tellableBy_11 : decode cX0_tellableBy 11 = .ok (.iload_n 1, 1) := by decide +kernel
theorem dX0_tellableBy_12 : decode cX0_tellableBy 12 = .ok (.aload_n 0, 1) := by decide +kernel
theorem dX0_tellableBy_13 : decode cX0_tellableBy 13 = .ok (.getfield 30, 3) := by decide +kernel
theorem dX0_tellableBy_16 : decode cX0_tellableBy 16 = .ok (.invokevirtual 84, 3) := by decide +kernel
theorem dX0_tellableBy_19 : decode cX0_tellableBy 19 = .ok (.invokevirtual 100, 3) := by decide +kernel
theorem dX0_tellableBy_22 : decode cX0_tellableBy 22 = .ok (.ireturn, 1) := by decide +kernel
theorem dX0_tellableIn_0 : decode cX0_tellableIn 0 = .ok (.aload_n 0, 1) := by decide +kernel
theorem dX0_tellableIn_1 : decode cX0_tellableIn 1 = .ok (.iload_n 1, 1) := by decide +kernel
theorem dX0_tellableIn_2 : decode cX0_tellableIn 2 = .ok (.invokevirtual 96, 3) := by decide +kernel
theorem dX0_tellableIn_5 : decode cX0_tellableIn 5 = .ok (.iconst 0, 1) := by decide +kernel
theorem dX0_tellableIn_6 : decode cX0_tellableIn 6 = .ok (.istore_n 2, 1) := by decide +kernel
theorem dX0_tellableIn_7 : decode cX0_tellableIn 7 = .ok (.iconst 0, 1) := by decide +kernel
theorem dX0_tellableIn_8 : decode cX0_tellableIn 8 = .ok (.istore_n 3, 1) := by decide +kernel
theorem dX0_tellableIn_9 : decode cX0_tellableIn 9 = .ok (.iload_n 3, 1) := by decide +kernel
theorem dX0_tellableIn_10 : decode cX0_tellableIn 10 = .ok (.aload_n 0, 1) := by decide +kernel
theorem dX0_tellableIn_11 : decode cX0_tellableIn 11 = .ok (.getfield 38, 3) := by decide +kernel
theorem dX0_tellableIn_14 : decode cX0_tellableIn 14 = .ok (.if_icmp .ge 30, 3) := by decide +kernel
theorem dX0_tellableIn_17 : decode cX0_tellableIn 17 = .ok (.aload_n 0, 1) := by decide +kernel
theorem dX0_tellableIn_18 : decode cX0_tellableIn 18 = .ok (.getfield 9, 3) := by decide +kernel
theorem dX0_tellableIn_21 : decode cX0_tellableIn 21 = .ok (.iload_n 3, 1) := by decide +kernel
theorem dX0_tellableIn_22 : decode cX0_tellableIn 22 = .ok (.iaload, 1) := by decide +kernel
theorem dX0_tellableIn_23 : decode cX0_tellableIn 23 = .ok (.iload_n 1, 1) := by decide +kernel
theorem dX0_tellableIn_24 : decode cX0_tellableIn 24 = .ok (.if_icmp .ne 14, 3) := by decide +kernel
theorem dX0_tellableIn_27 : decode cX0_tellableIn 27 = .ok (.iload_n 2, 1) := by decide +kernel
theorem dX0_tellableIn_28 : decode cX0_tellableIn 28 = .ok (.aload_n 0, 1) := by decide +kernel
theorem dX0_tellableIn_29 : decode cX0_tellableIn 29 = .ok (.iload_n 3, 1) := by decide +kernel
theorem dX0_tellableIn_30 : decode cX0_tellableIn 30 = .ok (.iload_n 2, 1) := by decide +kernel
theorem dX0_tellableIn_31 : decode cX0_tellableIn 31 = .ok (.iconst (-1), 1) := by decide +kernel
theorem dX0_tellableIn_32 : decode cX0_tellableIn 32 = .ok (.ixor, 1) := by decide +kernel
theorem dX0_tellableIn_33 : decode cX0_tellableIn 33 = .ok (.invokevirtual 100, 3) := by decide +kernel
theorem dX0_tellableIn_36 : decode cX0_tellableIn 36 = .ok (.ior, 1) := by decide +kernel
theorem dX0_tellableIn_37 : decode cX0_tellableIn 37 = .ok (.istore_n 2, 1) := by decide +kernel
theorem dX0_tellableIn_38 : decode cX0_tellableIn 38 = .ok (.iinc 3 1, 3) := by decide +kernel
theorem dX0_tellableIn_41 : decode cX0_tellableIn 41 = .ok (.goto (-32), 3) := by decide +kernel
theorem dX0_tellableIn_44 : decode cX0_tellableIn 44 = .ok (.iload_n 2, 1) := by decide +kernel
theorem dX0_tellableIn_45 : decode cX0_tellableIn 45 = .ok (.ireturn, 1) := by decide +kernel
theorem dX0_unheardIn_0 : decode cX0_unheardIn 0 = .ok (.aload_n 0, 1) := by decide +kernel
theorem dX0_unheardIn_1 : decode cX0_unheardIn 1 = .ok (.iload_n 1, 1) := by decide +kernel
theorem dX0_unheardIn_2 : decode cX0_unheardIn 2 = .ok (.invokevirtual 96, 3) := by decide +kernel
theorem dX0_unheardIn_5 : decode cX0_unheardIn 5 = .ok (.iconst 0, 1) := by decide +kernel
theorem dX0_unheardIn_6 : decode cX0_unheardIn 6 = .ok (.istore_n 2, 1) := by decide +kernel
theorem dX0_unheardIn_7 : decode cX0_unheardIn 7 = .ok (.iconst 0, 1) := by decide +kernel
theorem dX0_unheardIn_8 : decode cX0_unheardIn 8 = .ok (.istore_n 3, 1) := by decide +kernel
theorem dX0_unheardIn_9 : decode cX0_unheardIn 9 = .ok (.iload_n 3, 1) := by decide +kernel
theorem dX0_unheardIn_10 : decode cX0_unheardIn 10 = .ok (.aload_n 0, 1) := by decide +kernel
theorem dX0_unheardIn_11 : decode cX0_unheardIn 11 = .ok (.getfield 38, 3) := by decide +kernel
theorem dX0_unheardIn_14 : decode cX0_unheardIn 14 = .ok (.if_icmp .ge 34, 3) := by decide +kernel
theorem dX0_unheardIn_17 : decode cX0_unheardIn 17 = .ok (.aload_n 0, 1) := by decide +kernel
theorem dX0_unheardIn_18 : decode cX0_unheardIn 18 = .ok (.getfield 9, 3) := by decide +kernel
theorem dX0_unheardIn_21 : decode cX0_unheardIn 21 = .ok (.iload_n 3, 1) := by decide +kernel
theorem dX0_unheardIn_22 : decode cX0_unheardIn 22 = .ok (.iaload, 1) := by decide +kernel
theorem dX0_unheardIn_23 : decode cX0_unheardIn 23 = .ok (.iload_n 1, 1) := by decide +kernel
theorem dX0_unheardIn_24 : decode cX0_unheardIn 24 = .ok (.if_icmp .ne 18, 3) := by decide +kernel
theorem dX0_unheardIn_27 : decode cX0_unheardIn 27 = .ok (.iload_n 2, 1) := by decide +kernel
theorem dX0_unheardIn_28 : decode cX0_unheardIn 28 = .ok (.aload_n 0, 1) := by decide +kernel
theorem dX0_unheardIn_29 : decode cX0_unheardIn 29 = .ok (.getfield 18, 3) := by decide +kernel
theorem dX0_unheardIn_32 : decode cX0_unheardIn 32 = .ok (.iload_n 3, 1) := by decide +kernel
theorem dX0_unheardIn_33 : decode cX0_unheardIn 33 = .ok (.iaload, 1) := by decide +kernel
theorem dX0_unheardIn_34 : decode cX0_unheardIn 34 = .ok (.aload_n 0, 1) := by decide +kernel
theorem dX0_unheardIn_35 : decode cX0_unheardIn 35 = .ok (.iload_n 3, 1) := by decide +kernel
theorem dX0_unheardIn_36 : decode cX0_unheardIn 36 = .ok (.invokevirtual 88, 3) := by decide +kernel
theorem dX0_unheardIn_39 : decode cX0_unheardIn 39 = .ok (.iand, 1) := by decide +kernel
theorem dX0_unheardIn_40 : decode cX0_unheardIn 40 = .ok (.ior, 1) := by decide +kernel
theorem dX0_unheardIn_41 : decode cX0_unheardIn 41 = .ok (.istore_n 2, 1) := by decide +kernel
theorem dX0_unheardIn_42 : decode cX0_unheardIn 42 = .ok (.iinc 3 1, 3) := by decide +kernel
theorem dX0_unheardIn_45 : decode cX0_unheardIn 45 = .ok (.goto (-36), 3) := by decide +kernel
theorem dX0_unheardIn_48 : decode cX0_unheardIn 48 = .ok (.iload_n 2, 1) := by decide +kernel
theorem dX0_unheardIn_49 : decode cX0_unheardIn 49 = .ok (.ireturn, 1) := by decide +kernel
theorem dX0_byWhom_0 : decode cX0_byWhom 0 = .ok (.aload_n 0, 1) := by decide +kernel
theorem dX0_byWhom_1 : decode cX0_byWhom 1 = .ok (.iload_n 1, 1) := by decide +kernel
theorem dX0_byWhom_2 : decode cX0_byWhom 2 = .ok (.invokevirtual 96, 3) := by decide +kernel
theorem dX0_byWhom_5 : decode cX0_byWhom 5 = .ok (.aload_n 0, 1) := by decide +kernel
theorem dX0_byWhom_6 : decode cX0_byWhom 6 = .ok (.iload_n 1, 1) := by decide +kernel
theorem dX0_byWhom_7 : decode cX0_byWhom 7 = .ok (.iload_n 2, 1) := by decide +kernel
theorem dX0_byWhom_8 : decode cX0_byWhom 8 = .ok (.invokevirtual 104, 3) := by decide +kernel
theorem dX0_byWhom_11 : decode cX0_byWhom 11 = .ok (.ireturn, 1) := by decide +kernel
theorem dX0_firstTeller_0 : decode cX0_firstTeller 0 = .ok (.iconst 0, 1) := by decide +kernel
theorem dX0_firstTeller_1 : decode cX0_firstTeller 1 = .ok (.istore_n 3, 1) := by decide +kernel
theorem dX0_firstTeller_2 : decode cX0_firstTeller 2 = .ok (.iload_n 3, 1) := by decide +kernel
theorem dX0_firstTeller_3 : decode cX0_firstTeller 3 = .ok (.aload_n 0, 1) := by decide +kernel
theorem dX0_firstTeller_4 : decode cX0_firstTeller 4 = .ok (.getfield 38, 3) := by decide +kernel
theorem dX0_firstTeller_7 : decode cX0_firstTeller 7 = .ok (.if_icmp .ge 32, 3) := by decide +kernel
theorem dX0_firstTeller_10 : decode cX0_firstTeller 10 = .ok (.aload_n 0, 1) := by decide +kernel
theorem dX0_firstTeller_11 : decode cX0_firstTeller 11 = .ok (.getfield 9, 3) := by decide +kernel
theorem dX0_firstTeller_14 : decode cX0_firstTeller 14 = .ok (.iload_n 3, 1) := by decide +kernel
theorem dX0_firstTeller_15 : decode cX0_firstTeller 15 = .ok (.iaload, 1) := by decide +kernel
theorem dX0_firstTeller_16 : decode cX0_firstTeller 16 = .ok (.iload_n 1, 1) := by decide +kernel
theorem dX0_firstTeller_17 : decode cX0_firstTeller 17 = .ok (.if_icmp .ne 16, 3) := by decide +kernel
theorem dX0_firstTeller_20 : decode cX0_firstTeller 20 = .ok (.aload_n 0, 1) := by decide +kernel
theorem dX0_firstTeller_21 : decode cX0_firstTeller 21 = .ok (.iload_n 3, 1) := by decide +kernel
theorem dX0_firstTeller_22 : decode cX0_firstTeller 22 = .ok (.iconst 1, 1) := by decide +kernel
theorem dX0_firstTeller_23 : decode cX0_firstTeller 23 = .ok (.iload_n 2, 1) := by decide +kernel
theorem dX0_firstTeller_24 : decode cX0_firstTeller 24 = .ok (.ishl, 1) := by decide +kernel
theorem dX0_firstTeller_25 : decode cX0_firstTeller 25 = .ok (.invokevirtual 100, 3) := by decide +kernel
theorem dX0_firstTeller_28 : decode cX0_firstTeller 28 = .ok (.ifCond .eq 5, 3) := by decide +kernel
theorem dX0_firstTeller_31 : decode cX0_firstTeller 31 = .ok (.iload_n 3, 1) := by decide +kernel
theorem dX0_firstTeller_32 : decode cX0_firstTeller 32 = .ok (.ireturn, 1) := by decide +kernel
theorem dX0_firstTeller_33 : decode cX0_firstTeller 33 = .ok (.iinc 3 1, 3) := by decide +kernel
theorem dX0_firstTeller_36 : decode cX0_firstTeller 36 = .ok (.goto (-34), 3) := by decide +kernel
theorem dX0_firstTeller_39 : decode cX0_firstTeller 39 = .ok (.iconst (-1), 1) := by decide +kernel
theorem dX0_firstTeller_40 : decode cX0_firstTeller 40 = .ok (.ireturn, 1) := by decide +kernel
theorem dX0_worthOf_0 : decode cX0_worthOf 0 = .ok (.aload_n 0, 1) := by decide +kernel
theorem dX0_worthOf_1 : decode cX0_worthOf 1 = .ok (.iload_n 1, 1) := by decide +kernel
theorem dX0_worthOf_2 : decode cX0_worthOf 2 = .ok (.invokevirtual 96, 3) := by decide +kernel
theorem dX0_worthOf_5 : decode cX0_worthOf 5 = .ok (.aload_n 0, 1) := by decide +kernel
theorem dX0_worthOf_6 : decode cX0_worthOf 6 = .ok (.iload_n 1, 1) := by decide +kernel
theorem dX0_worthOf_7 : decode cX0_worthOf 7 = .ok (.iload_n 2, 1) := by decide +kernel
theorem dX0_worthOf_8 : decode cX0_worthOf 8 = .ok (.invokevirtual 104, 3) := by decide +kernel
theorem dX0_worthOf_11 : decode cX0_worthOf 11 = .ok (.istore_n 3, 1) := by decide +kernel
theorem dX0_worthOf_12 : decode cX0_worthOf 12 = .ok (.iload_n 3, 1) := by decide +kernel
theorem dX0_worthOf_13 : decode cX0_worthOf 13 = .ok (.iconst (-1), 1) := by decide +kernel
theorem dX0_worthOf_14 : decode cX0_worthOf 14 = .ok (.if_icmp .ne 9, 3) := by decide +kernel
theorem dX0_worthOf_17 : decode cX0_worthOf 17 = .ok (.ldc2_w 107, 3) := by decide +kernel
theorem dX0_worthOf_20 : decode cX0_worthOf 20 = .ok (.goto 9, 3) := by decide +kernel
theorem dX0_worthOf_23 : decode cX0_worthOf 23 = .ok (.aload_n 0, 1) := by decide +kernel
theorem dX0_worthOf_24 : decode cX0_worthOf 24 = .ok (.iload_n 3, 1) := by decide +kernel
theorem dX0_worthOf_25 : decode cX0_worthOf 25 = .ok (.iload_n 2, 1) := by decide +kernel
theorem dX0_worthOf_26 : decode cX0_worthOf 26 = .ok (.invokevirtual 109, 3) := by decide +kernel
theorem dX0_worthOf_29 : decode cX0_worthOf 29 = .ok (.lreturn, 1) := by decide +kernel
theorem dX0_worthBy_0 : decode cX0_worthBy 0 = .ok (.aload_n 0, 1) := by decide +kernel
theorem dX0_worthBy_1 : decode cX0_worthBy 1 = .ok (.iconst 1, 1) := by decide +kernel
theorem dX0_worthBy_2 : decode cX0_worthBy 2 = .ok (.iload_n 1, 1) := by decide +kernel
theorem dX0_worthBy_3 : decode cX0_worthBy 3 = .ok (.iload_n 2, 1) := by decide +kernel
theorem dX0_worthBy_4 : decode cX0_worthBy 4 = .ok (.aload_n 0, 1) := by decide +kernel
theorem dX0_worthBy_5 : decode cX0_worthBy 5 = .ok (.getfield 72, 3) := by decide +kernel
theorem dX0_worthBy_8 : decode cX0_worthBy 8 = .ok (.invokevirtual 92, 3) := by decide +kernel
theorem dX0_worthBy_11 : decode cX0_worthBy 11 = .ok (.bipush (-99), 2) := by decide +kernel
theorem dX0_worthBy_13 : decode cX0_worthBy 13 = .ok (.invokestatic 113, 3) := by decide +kernel
theorem dX0_worthBy_16 : decode cX0_worthBy 16 = .ok (.istore_n 3, 1) := by decide +kernel
theorem dX0_worthBy_17 : decode cX0_worthBy 17 = .ok (.iconst 0, 1) := by decide +kernel
theorem dX0_worthBy_18 : decode cX0_worthBy 18 = .ok (.istore 4, 2) := by decide +kernel
theorem dX0_worthBy_20 : decode cX0_worthBy 20 = .ok (.iload 4, 2) := by decide +kernel
theorem dX0_worthBy_22 : decode cX0_worthBy 22 = .ok (.aload_n 0, 1) := by decide +kernel
theorem dX0_worthBy_23 : decode cX0_worthBy 23 = .ok (.getfield 38, 3) := by decide +kernel
theorem dX0_worthBy_26 : decode cX0_worthBy 26 = .ok (.if_icmp .ge 50, 3) := by decide +kernel
theorem dX0_worthBy_29 : decode cX0_worthBy 29 = .ok (.iload 4, 2) := by decide +kernel
theorem dX0_worthBy_31 : decode cX0_worthBy 31 = .ok (.iload_n 1, 1) := by decide +kernel
theorem dX0_worthBy_32 : decode cX0_worthBy 32 = .ok (.if_icmp .eq 38, 3) := by decide +kernel
theorem dX0_worthBy_35 : decode cX0_worthBy 35 = .ok (.aload_n 0, 1) := by decide +kernel
theorem dX0_worthBy_36 : decode cX0_worthBy 36 = .ok (.getfield 9, 3) := by decide +kernel
theorem dX0_worthBy_39 : decode cX0_worthBy 39 = .ok (.iload 4, 2) := by decide +kernel
theorem dX0_worthBy_41 : decode cX0_worthBy 41 = .ok (.iaload, 1) := by decide +kernel
theorem dX0_worthBy_42 : decode cX0_worthBy 42 = .ok (.aload_n 0, 1) := by decide +kernel
theorem dX0_worthBy_43 : decode cX0_worthBy 43 = .ok (.getfield 9, 3) := by decide +kernel
theorem dX0_worthBy_46 : decode cX0_worthBy 46 = .ok (.iload_n 1, 1) := by decide +kernel
theorem dX0_worthBy_47 : decode cX0_worthBy 47 = .ok (.iaload, 1) := by decide +kernel
theorem dX0_worthBy_48 : decode cX0_worthBy 48 = .ok (.if_icmp .ne 22, 3) := by decide +kernel
theorem dX0_worthBy_51 : decode cX0_worthBy 51 = .ok (.iload_n 3, 1) := by decide +kernel
theorem dX0_worthBy_52 : decode cX0_worthBy 52 = .ok (.aload_n 0, 1) := by decide +kernel
theorem dX0_worthBy_53 : decode cX0_worthBy 53 = .ok (.iconst 0, 1) := by decide +kernel
theorem dX0_worthBy_54 : decode cX0_worthBy 54 = .ok (.iload 4, 2) := by decide +kernel
theorem dX0_worthBy_56 : decode cX0_worthBy 56 = .ok (.iload_n 2, 1) := by decide +kernel
theorem dX0_worthBy_57 : decode cX0_worthBy 57 = .ok (.aload_n 0, 1) := by decide +kernel
theorem dX0_worthBy_58 : decode cX0_worthBy 58 = .ok (.getfield 72, 3) := by decide +kernel
theorem dX0_worthBy_61 : decode cX0_worthBy 61 = .ok (.invokevirtual 92, 3) := by decide +kernel
theorem dX0_worthBy_64 : decode cX0_worthBy 64 = .ok (.iconst 0, 1) := by decide +kernel
theorem dX0_worthBy_65 : decode cX0_worthBy 65 = .ok (.invokestatic 113, 3) := by decide +kernel
theorem dX0_worthBy_68 : decode cX0_worthBy 68 = .ok (.iadd, 1) := by decide +kernel
theorem dX0_worthBy_69 : decode cX0_worthBy 69 = .ok (.istore_n 3, 1) := by decide +kernel
theorem dX0_worthBy_70 : decode cX0_worthBy 70 = .ok (.iinc 4 1, 3) := by decide +kernel
theorem dX0_worthBy_73 : decode cX0_worthBy 73 = .ok (.goto (-53), 3) := by decide +kernel
theorem dX0_worthBy_76 : decode cX0_worthBy 76 = .ok (.iload_n 3, 1) := by decide +kernel
theorem dX0_worthBy_77 : decode cX0_worthBy 77 = .ok (.i2l, 1) := by decide +kernel
theorem dX0_worthBy_78 : decode cX0_worthBy 78 = .ok (.lreturn, 1) := by decide +kernel
theorem dX0_bestOf_0 : decode cX0_bestOf 0 = .ok (.aload_n 0, 1) := by decide +kernel
theorem dX0_bestOf_1 : decode cX0_bestOf 1 = .ok (.iload_n 1, 1) := by decide +kernel
theorem dX0_bestOf_2 : decode cX0_bestOf 2 = .ok (.invokevirtual 96, 3) := by decide +kernel
theorem dX0_bestOf_5 : decode cX0_bestOf 5 = .ok (.iconst (-1), 1) := by decide +kernel
theorem dX0_bestOf_6 : decode cX0_bestOf 6 = .ok (.istore_n 2, 1) := by decide +kernel
theorem dX0_bestOf_7 : decode cX0_bestOf 7 = .ok (.ldc2_w 107, 3) := by decide +kernel
theorem dX0_bestOf_10 : decode cX0_bestOf 10 = .ok (.lstore_n 3, 1) := by decide +kernel
theorem dX0_bestOf_11 : decode cX0_bestOf 11 = .ok (.iconst 0, 1) := by decide +kernel
theorem dX0_bestOf_12 : decode cX0_bestOf 12 = .ok (.istore 5, 2) := by decide +kernel
theorem dX0_bestOf_14 : decode cX0_bestOf 14 = .ok (.iload 5, 2) := by decide +kernel
theorem dX0_bestOf_16 : decode cX0_bestOf 16 = .ok (.aload_n 0, 1) := by decide +kernel
theorem dX0_bestOf_17 : decode cX0_bestOf 17 = .ok (.getfield 30, 3) := by decide +kernel
theorem dX0_bestOf_20 : decode cX0_bestOf 20 = .ok (.getfield 91, 3) := by decide +kernel
theorem dX0_bestOf_23 : decode cX0_bestOf 23 = .ok (.if_icmp .ge 53, 3) := by decide +kernel
theorem dX0_bestOf_26 : decode cX0_bestOf 26 = .ok (.aload_n 0, 1) := by decide +kernel
theorem dX0_bestOf_27 : decode cX0_bestOf 27 = .ok (.iload_n 1, 1) := by decide +kernel
theorem dX0_bestOf_28 : decode cX0_bestOf 28 = .ok (.iload 5, 2) := by decide +kernel
theorem dX0_bestOf_30 : decode cX0_bestOf 30 = .ok (.invokevirtual 104, 3) := by decide +kernel
theorem dX0_bestOf_33 : decode cX0_bestOf 33 = .ok (.istore 6, 2) := by decide +kernel
theorem dX0_bestOf_35 : decode cX0_bestOf 35 = .ok (.iload 6, 2) := by decide +kernel
theorem dX0_bestOf_37 : decode cX0_bestOf 37 = .ok (.iconst (-1), 1) := by decide +kernel
theorem dX0_bestOf_38 : decode cX0_bestOf 38 = .ok (.if_icmp .ne 9, 3) := by decide +kernel
theorem dX0_bestOf_41 : decode cX0_bestOf 41 = .ok (.ldc2_w 107, 3) := by decide +kernel
theorem dX0_bestOf_44 : decode cX0_bestOf 44 = .ok (.goto 11, 3) := by decide +kernel
theorem dX0_bestOf_47 : decode cX0_bestOf 47 = .ok (.aload_n 0, 1) := by decide +kernel
theorem dX0_bestOf_48 : decode cX0_bestOf 48 = .ok (.iload 6, 2) := by decide +kernel
theorem dX0_bestOf_50 : decode cX0_bestOf 50 = .ok (.iload 5, 2) := by decide +kernel
theorem dX0_bestOf_52 : decode cX0_bestOf 52 = .ok (.invokevirtual 109, 3) := by decide +kernel
theorem dX0_bestOf_55 : decode cX0_bestOf 55 = .ok (.lstore 7, 2) := by decide +kernel
theorem dX0_bestOf_57 : decode cX0_bestOf 57 = .ok (.lload 7, 2) := by decide +kernel
theorem dX0_bestOf_59 : decode cX0_bestOf 59 = .ok (.lload_n 3, 1) := by decide +kernel
theorem dX0_bestOf_60 : decode cX0_bestOf 60 = .ok (.lcmp, 1) := by decide +kernel
theorem dX0_bestOf_61 : decode cX0_bestOf 61 = .ok (.ifCond .le 9, 3) := by decide +kernel
theorem dX0_bestOf_64 : decode cX0_bestOf 64 = .ok (.lload 7, 2) := by decide +kernel
theorem dX0_bestOf_66 : decode cX0_bestOf 66 = .ok (.lstore_n 3, 1) := by decide +kernel
theorem dX0_bestOf_67 : decode cX0_bestOf 67 = .ok (.iload 5, 2) := by decide +kernel
theorem dX0_bestOf_69 : decode cX0_bestOf 69 = .ok (.istore_n 2, 1) := by decide +kernel
theorem dX0_bestOf_70 : decode cX0_bestOf 70 = .ok (.iinc 5 1, 3) := by decide +kernel
theorem dX0_bestOf_73 : decode cX0_bestOf 73 = .ok (.goto (-59), 3) := by decide +kernel
theorem dX0_bestOf_76 : decode cX0_bestOf 76 = .ok (.iload_n 2, 1) := by decide +kernel
theorem dX0_bestOf_77 : decode cX0_bestOf 77 = .ok (.ireturn, 1) := by decide +kernel
theorem dX0_spend_0 : decode cX0_spend 0 = .ok (.aload_n 0, 1) := by decide +kernel
theorem dX0_spend_1 : decode cX0_spend 1 = .ok (.iload_n 1, 1) := by decide +kernel
theorem dX0_spend_2 : decode cX0_spend 2 = .ok (.invokevirtual 96, 3) := by decide +kernel
theorem dX0_spend_5 : decode cX0_spend 5 = .ok (.aload_n 0, 1) := by decide +kernel
theorem dX0_spend_6 : decode cX0_spend 6 = .ok (.iload_n 1, 1) := by decide +kernel
theorem dX0_spend_7 : decode cX0_spend 7 = .ok (.iload_n 2, 1) := by decide +kernel
theorem dX0_spend_8 : decode cX0_spend 8 = .ok (.invokevirtual 104, 3) := by decide +kernel
theorem dX0_spend_11 : decode cX0_spend 11 = .ok (.istore_n 3, 1) := by decide +kernel
theorem dX0_spend_12 : decode cX0_spend 12 = .ok (.iload_n 3, 1) := by decide +kernel
theorem dX0_spend_13 : decode cX0_spend 13 = .ok (.iconst (-1), 1) := by decide +kernel
theorem dX0_spend_14 : decode cX0_spend 14 = .ok (.if_icmp .ne 6, 3) := by decide +kernel
theorem dX0_spend_17 : decode cX0_spend 17 = .ok (.bipush (-3), 2) := by decide +kernel
theorem dX0_spend_19 : decode cX0_spend 19 = .ok (.ireturn, 1) := by decide +kernel
theorem dX0_spend_20 : decode cX0_spend 20 = .ok (.iconst 0, 1) := by decide +kernel
theorem dX0_spend_21 : decode cX0_spend 21 = .ok (.istore 4, 2) := by decide +kernel
theorem dX0_spend_23 : decode cX0_spend 23 = .ok (.iload 4, 2) := by decide +kernel
theorem dX0_spend_25 : decode cX0_spend 25 = .ok (.aload_n 0, 1) := by decide +kernel
theorem dX0_spend_26 : decode cX0_spend 26 = .ok (.getfield 38, 3) := by decide +kernel
theorem dX0_spend_29 : decode cX0_spend 29 = .ok (.if_icmp .ge 33, 3) := by decide +kernel
theorem dX0_spend_32 : decode cX0_spend 32 = .ok (.iload 4, 2) := by decide +kernel
theorem dX0_spend_34 : decode cX0_spend 34 = .ok (.iload_n 3, 1) := by decide +kernel
theorem dX0_spend_35 : decode cX0_spend 35 = .ok (.if_icmp .eq 21, 3) := by decide +kernel
theorem dX0_spend_38 : decode cX0_spend 38 = .ok (.aload_n 0, 1) := by decide +kernel
theorem dX0_spend_39 : decode cX0_spend 39 = .ok (.getfield 9, 3) := by decide +kernel
theorem dX0_spend_42 : decode cX0_spend 42 = .ok (.iload 4, 2) := by decide +kernel
theorem dX0_spend_44 : decode cX0_spend 44 = .ok (.iaload, 1) := by decide +kernel
theorem dX0_spend_45 : decode cX0_spend 45 = .ok (.iload_n 1, 1) := by decide +kernel
theorem dX0_spend_46 : decode cX0_spend 46 = .ok (.if_icmp .ne 10, 3) := by decide +kernel
theorem dX0_spend_49 : decode cX0_spend 49 = .ok (.aload_n 0, 1) := by decide +kernel
theorem dX0_spend_50 : decode cX0_spend 50 = .ok (.iload 4, 2) := by decide +kernel
theorem dX0_spend_52 : decode cX0_spend 52 = .ok (.iload_n 2, 1) := by decide +kernel
theorem dX0_spend_53 : decode cX0_spend 53 = .ok (.invokevirtual 116, 3) := by decide +kernel
theorem dX0_spend_56 : decode cX0_spend 56 = .ok (.iinc 4 1, 3) := by decide +kernel
theorem dX0_spend_59 : decode cX0_spend 59 = .ok (.goto (-36), 3) := by decide +kernel
theorem dX0_spend_62 : decode cX0_spend 62 = .ok (.aload_n 0, 1) := by decide +kernel
theorem dX0_spend_63 : decode cX0_spend 63 = .ok (.getfield 72, 3) := by decide +kernel
theorem dX0_spend_66 : decode cX0_spend 66 = .ok (.iconst 1, 1) := by decide +kernel
theorem dX0_spend_67 : decode cX0_spend 67 = .ok (.isub, 1) := by decide +kernel
theorem dX0_spend_68 : decode cX0_spend 68 = .ok (.ireturn, 1) := by decide +kernel
theorem dX0_sleep_0 : decode cX0_sleep 0 = .ok (.aload_n 0, 1) := by decide +kernel
theorem dX0_sleep_1 : decode cX0_sleep 1 = .ok (.sipush 999, 3) := by decide +kernel
theorem dX0_sleep_4 : decode cX0_sleep 4 = .ok (.aload_n 0, 1) := by decide +kernel
theorem dX0_sleep_5 : decode cX0_sleep 5 = .ok (.getfield 60, 3) := by decide +kernel
theorem dX0_sleep_8 : decode cX0_sleep 8 = .ok (.iconst 1, 1) := by decide +kernel
theorem dX0_sleep_9 : decode cX0_sleep 9 = .ok (.iadd, 1) := by decide +kernel
theorem dX0_sleep_10 : decode cX0_sleep 10 = .ok (.invokestatic 120, 3) := by decide +kernel
theorem dX0_sleep_13 : decode cX0_sleep 13 = .ok (.putfield 60, 3) := by decide +kernel
theorem dX0_sleep_16 : decode cX0_sleep 16 = .ok (.iconst 0, 1) := by decide +kernel
theorem dX0_sleep_17 : decode cX0_sleep 17 = .ok (.istore_n 1, 1) := by decide +kernel
theorem dX0_sleep_18 : decode cX0_sleep 18 = .ok (.iload_n 1, 1) := by decide +kernel
theorem dX0_sleep_19 : decode cX0_sleep 19 = .ok (.aload_n 0, 1) := by decide +kernel
theorem dX0_sleep_20 : decode cX0_sleep 20 = .ok (.getfield 30, 3) := by decide +kernel
theorem dX0_sleep_23 : decode cX0_sleep 23 = .ok (.getfield 91, 3) := by decide +kernel
theorem dX0_sleep_26 : decode cX0_sleep 26 = .ok (.if_icmp .ge 60, 3) := by decide +kernel
theorem dX0_sleep_29 : decode cX0_sleep 29 = .ok (.aload_n 0, 1) := by decide +kernel
theorem dX0_sleep_30 : decode cX0_sleep 30 = .ok (.getfield 60, 3) := by decide +kernel
theorem dX0_sleep_33 : decode cX0_sleep 33 = .ok (.aload_n 0, 1) := by decide +kernel
theorem dX0_sleep_34 : decode cX0_sleep 34 = .ok (.getfield 30, 3) := by decide +kernel
theorem dX0_sleep_37 : decode cX0_sleep 37 = .ok (.iload_n 1, 1) := by decide +kernel
theorem dX0_sleep_38 : decode cX0_sleep 38 = .ok (.invokevirtual 125, 3) := by decide +kernel
theorem dX0_sleep_41 : decode cX0_sleep 41 = .ok (.isub, 1) := by decide +kernel
theorem dX0_sleep_42 : decode cX0_sleep 42 = .ok (.istore_n 2, 1) := by decide +kernel
theorem dX0_sleep_43 : decode cX0_sleep 43 = .ok (.iconst 0, 1) := by decide +kernel
theorem dX0_sleep_44 : decode cX0_sleep 44 = .ok (.istore_n 3, 1) := by decide +kernel
theorem dX0_sleep_45 : decode cX0_sleep 45 = .ok (.iload_n 3, 1) := by decide +kernel
theorem dX0_sleep_46 : decode cX0_sleep 46 = .ok (.aload_n 0, 1) := by decide +kernel
theorem dX0_sleep_47 : decode cX0_sleep 47 = .ok (.getfield 38, 3) := by decide +kernel
theorem dX0_sleep_50 : decode cX0_sleep 50 = .ok (.if_icmp .ge 30, 3) := by decide +kernel
theorem dX0_sleep_53 : decode cX0_sleep 53 = .ok (.aload_n 0, 1) := by decide +kernel
theorem dX0_sleep_54 : decode cX0_sleep 54 = .ok (.getfield 24, 3) := by decide +kernel
theorem dX0_sleep_57 : decode cX0_sleep 57 = .ok (.iload_n 3, 1) := by decide +kernel
theorem dX0_sleep_58 : decode cX0_sleep 58 = .ok (.bipush 8, 2) := by decide +kernel
theorem dX0_sleep_60 : decode cX0_sleep 60 = .ok (.imul, 1) := by decide +kernel
theorem dX0_sleep_61 : decode cX0_sleep 61 = .ok (.iload_n 1, 1) := by decide +kernel
theorem dX0_sleep_62 : decode cX0_sleep 62 = .ok (.iadd, 1) := by decide +kernel
theorem dX0_sleep_63 : decode cX0_sleep 63 = .ok (.iaload, 1) := by decide +kernel
theorem dX0_sleep_64 : decode cX0_sleep 64 = .ok (.iload_n 2, 1) := by decide +kernel
theorem dX0_sleep_65 : decode cX0_sleep 65 = .ok (.if_icmp .gt 9, 3) := by decide +kernel
theorem dX0_sleep_68 : decode cX0_sleep 68 = .ok (.aload_n 0, 1) := by decide +kernel
theorem dX0_sleep_69 : decode cX0_sleep 69 = .ok (.iload_n 3, 1) := by decide +kernel
theorem dX0_sleep_70 : decode cX0_sleep 70 = .ok (.iload_n 1, 1) := by decide +kernel
theorem dX0_sleep_71 : decode cX0_sleep 71 = .ok (.invokevirtual 128, 3) := by decide +kernel
theorem dX0_sleep_74 : decode cX0_sleep 74 = .ok (.iinc 3 1, 3) := by decide +kernel
theorem dX0_sleep_77 : decode cX0_sleep 77 = .ok (.goto (-32), 3) := by decide +kernel
theorem dX0_sleep_80 : decode cX0_sleep 80 = .ok (.iinc 1 1, 3) := by decide +kernel
theorem dX0_sleep_83 : decode cX0_sleep 83 = .ok (.goto (-65), 3) := by decide +kernel
theorem dX0_sleep_86 : decode cX0_sleep 86 = .ok (.return_, 1) := by decide +kernel
theorem dX0_value_0 : decode cX0_value 0 = .ok (.aload_n 0, 1) := by decide +kernel
theorem dX0_value_1 : decode cX0_value 1 = .ok (.getfield 34, 3) := by decide +kernel
theorem dX0_value_4 : decode cX0_value 4 = .ok (.aload_n 0, 1) := by decide +kernel
theorem dX0_value_5 : decode cX0_value 5 = .ok (.getfield 63, 3) := by decide +kernel
theorem dX0_value_8 : decode cX0_value 8 = .ok (.invokevirtual 131, 3) := by decide +kernel
theorem dX0_value_11 : decode cX0_value 11 = .ok (.astore 5, 2) := by decide +kernel
theorem dX0_value_13 : decode cX0_value 13 = .ok (.aload 5, 2) := by decide +kernel
theorem dX0_value_15 : decode cX0_value 15 = .ok (.ifnonnull 5, 3) := by decide +kernel
theorem dX0_value_18 : decode cX0_value 18 = .ok (.iconst 0, 1) := by decide +kernel
theorem dX0_value_19 : decode cX0_value 19 = .ok (.ireturn, 1) := by decide +kernel
theorem dX0_value_20 : decode cX0_value 20 = .ok (.aload_n 0, 1) := by decide +kernel
theorem dX0_value_21 : decode cX0_value 21 = .ok (.getfield 34, 3) := by decide +kernel
theorem dX0_value_24 : decode cX0_value 24 = .ok (.getfield 137, 3) := by decide +kernel
theorem dX0_value_27 : decode cX0_value 27 = .ok (.astore 6, 2) := by decide +kernel
theorem dX0_value_29 : decode cX0_value 29 = .ok (.aload 6, 2) := by decide +kernel
theorem dX0_value_31 : decode cX0_value 31 = .ok (.iconst 0, 1) := by decide +kernel
theorem dX0_value_32 : decode cX0_value 32 = .ok (.aload_n 0, 1) := by decide +kernel
theorem dX0_value_33 : decode cX0_value 33 = .ok (.getfield 15, 3) := by decide +kernel
theorem dX0_value_36 : decode cX0_value 36 = .ok (.iload_n 2, 1) := by decide +kernel
theorem dX0_value_37 : decode cX0_value 37 = .ok (.iaload, 1) := by decide +kernel
theorem dX0_value_38 : decode cX0_value 38 = .ok (.iastore, 1) := by decide +kernel
theorem dX0_value_39 : decode cX0_value 39 = .ok (.aload 6, 2) := by decide +kernel
theorem dX0_value_41 : decode cX0_value 41 = .ok (.iconst 1, 1) := by decide +kernel
theorem dX0_value_42 : decode cX0_value 42 = .ok (.aload_n 0, 1) := by decide +kernel
theorem dX0_value_43 : decode cX0_value 43 = .ok (.getfield 30, 3) := by decide +kernel
theorem dX0_value_46 : decode cX0_value 46 = .ok (.iload_n 3, 1) := by decide +kernel
theorem dX0_value_47 : decode cX0_value 47 = .ok (.aload_n 0, 1) := by decide +kernel
theorem dX0_value_48 : decode cX0_value 48 = .ok (.getfield 15, 3) := by decide +kernel
theorem dX0_value_51 : decode cX0_value 51 = .ok (.iload_n 2, 1) := by decide +kernel
theorem dX0_value_52 : decode cX0_value 52 = .ok (.iaload, 1) := by decide +kernel
theorem dX0_value_53 : decode cX0_value 53 = .ok (.invokevirtual 140, 3) := by decide +kernel
theorem dX0_value_56 : decode cX0_value 56 = .ok (.iastore, 1) := by decide +kernel
theorem dX0_value_57 : decode cX0_value 57 = .ok (.aload 6, 2) := by decide +kernel
theorem dX0_value_59 : decode cX0_value 59 = .ok (.iconst 2, 1) := by decide +kernel
theorem dX0_value_60 : decode cX0_value 60 = .ok (.aload_n 0, 1) := by decide +kernel
theorem dX0_value_61 : decode cX0_value 61 = .ok (.getfield 21, 3) := by decide +kernel
theorem dX0_value_64 : decode cX0_value 64 = .ok (.iload_n 2, 1) := by decide +kernel
theorem dX0_value_65 : decode cX0_value 65 = .ok (.iaload, 1) := by decide +kernel
theorem dX0_value_66 : decode cX0_value 66 = .ok (.invokestatic 143, 3) := by decide +kernel
theorem dX0_value_69 : decode cX0_value 69 = .ok (.iastore, 1) := by decide +kernel
theorem dX0_value_70 : decode cX0_value 70 = .ok (.aload 6, 2) := by decide +kernel
theorem dX0_value_72 : decode cX0_value 72 = .ok (.iconst 3, 1) := by decide +kernel
theorem dX0_value_73 : decode cX0_value 73 = .ok (.iload 4, 2) := by decide +kernel
theorem dX0_value_75 : decode cX0_value 75 = .ok (.iastore, 1) := by decide +kernel
theorem dX0_value_76 : decode cX0_value 76 = .ok (.aload 6, 2) := by decide +kernel
theorem dX0_value_78 : decode cX0_value 78 = .ok (.iconst 4, 1) := by decide +kernel
theorem dX0_value_79 : decode cX0_value 79 = .ok (.aload_n 0, 1) := by decide +kernel
theorem dX0_value_80 : decode cX0_value 80 = .ok (.getfield 60, 3) := by decide +kernel
theorem dX0_value_83 : decode cX0_value 83 = .ok (.iastore, 1) := by decide +kernel
theorem dX0_value_84 : decode cX0_value 84 = .ok (.aload 6, 2) := by decide +kernel
theorem dX0_value_86 : decode cX0_value 86 = .ok (.iconst 5, 1) := by decide +kernel
theorem dX0_value_87 : decode cX0_value 87 = .ok (.aload_n 0, 1) := by decide +kernel
theorem dX0_value_88 : decode cX0_value 88 = .ok (.getfield 18, 3) := by decide +kernel
theorem dX0_value_91 : decode cX0_value 91 = .ok (.iload_n 2, 1) := by decide +kernel
theorem dX0_value_92 : decode cX0_value 92 = .ok (.iaload, 1) := by decide +kernel
theorem dX0_value_93 : decode cX0_value 93 = .ok (.invokestatic 143, 3) := by decide +kernel
theorem dX0_value_96 : decode cX0_value 96 = .ok (.iastore, 1) := by decide +kernel
theorem dX0_value_97 : decode cX0_value 97 = .ok (.aload 5, 2) := by decide +kernel
theorem dX0_value_99 : decode cX0_value 99 = .ok (.iload_n 1, 1) := by decide +kernel
theorem dX0_value_100 : decode cX0_value 100 = .ok (.aload 6, 2) := by decide +kernel
theorem dX0_value_102 : decode cX0_value 102 = .ok (.aload_n 0, 1) := by decide +kernel
theorem dX0_value_103 : decode cX0_value 103 = .ok (.getfield 34, 3) := by decide +kernel
theorem dX0_value_106 : decode cX0_value 106 = .ok (.getfield 148, 3) := by decide +kernel
theorem dX0_value_109 : decode cX0_value 109 = .ok (.invokevirtual 151, 3) := by decide +kernel
theorem dX0_value_112 : decode cX0_value 112 = .ok (.ireturn, 1) := by decide +kernel
theorem dX0_bounded_0 : decode cX0_bounded 0 = .ok (.iload_n 1, 1) := by decide +kernel
theorem dX0_bounded_1 : decode cX0_bounded 1 = .ok (.bipush 99, 2) := by decide +kernel
theorem dX0_bounded_3 : decode cX0_bounded 3 = .ok (.iload_n 0, 1) := by decide +kernel
theorem dX0_bounded_4 : decode cX0_bounded 4 = .ok (.invokestatic 120, 3) := by decide +kernel
theorem dX0_bounded_7 : decode cX0_bounded 7 = .ok (.invokestatic 156, 3) := by decide +kernel
theorem dX0_bounded_10 : decode cX0_bounded 10 = .ok (.ireturn, 1) := by decide +kernel
theorem dX2_init_0 : decode cX2_init 0 = .ok (.aload_n 0, 1) := by decide +kernel
theorem dX2_init_1 : decode cX2_init 1 = .ok (.invokespecial 3, 3) := by decide +kernel
theorem dX2_init_4 : decode cX2_init 4 = .ok (.aload_n 0, 1) := by decide +kernel
theorem dX2_init_5 : decode cX2_init 5 = .ok (.iload_n 2, 1) := by decide +kernel
theorem dX2_init_6 : decode cX2_init 6 = .ok (.newarray .int, 2) := by decide +kernel
theorem dX2_init_8 : decode cX2_init 8 = .ok (.putfield 9, 3) := by decide +kernel
theorem dX2_init_11 : decode cX2_init 11 = .ok (.aload_n 1, 1) := by decide +kernel
theorem dX2_init_12 : decode cX2_init 12 = .ok (.iconst 0, 1) := by decide +kernel
theorem dX2_init_13 : decode cX2_init 13 = .ok (.aload_n 0, 1) := by decide +kernel
theorem dX2_init_14 : decode cX2_init 14 = .ok (.getfield 9, 3) := by decide +kernel
theorem dX2_init_17 : decode cX2_init 17 = .ok (.iconst 0, 1) := by decide +kernel
theorem dX2_init_18 : decode cX2_init 18 = .ok (.iload_n 2, 1) := by decide +kernel
theorem dX2_init_19 : decode cX2_init 19 = .ok (.invokestatic 15, 3) := by decide +kernel
theorem dX2_init_22 : decode cX2_init 22 = .ok (.aload_n 0, 1) := by decide +kernel
theorem dX2_init_23 : decode cX2_init 23 = .ok (.iload_n 3, 1) := by decide +kernel
theorem dX2_init_24 : decode cX2_init 24 = .ok (.putfield 21, 3) := by decide +kernel
theorem dX2_init_27 : decode cX2_init 27 = .ok (.aload_n 0, 1) := by decide +kernel
theorem dX2_init_28 : decode cX2_init 28 = .ok (.iload 4, 2) := by decide +kernel
theorem dX2_init_30 : decode cX2_init 30 = .ok (.putfield 25, 3) := by decide +kernel
theorem dX2_init_33 : decode cX2_init 33 = .ok (.return_, 1) := by decide +kernel
theorem dX2_value_0 : decode cX2_value 0 = .ok (.iload_n 1, 1) := by decide +kernel
theorem dX2_value_1 : decode cX2_value 1 = .ok (.ifCond .ne 7, 3) := by decide +kernel
theorem dX2_value_4 : decode cX2_value 4 = .ok (.iconst 0, 1) := by decide +kernel
theorem dX2_value_5 : decode cX2_value 5 = .ok (.goto 19, 3) := by decide +kernel
theorem dX2_value_8 : decode cX2_value 8 = .ok (.iload_n 1, 1) := by decide +kernel
theorem dX2_value_9 : decode cX2_value 9 = .ok (.iconst 1, 1) := by decide +kernel
theorem dX2_value_10 : decode cX2_value 10 = .ok (.if_icmp .ne 10, 3) := by decide +kernel
theorem dX2_value_13 : decode cX2_value 13 = .ok (.aload_n 0, 1) := by decide +kernel
theorem dX2_value_14 : decode cX2_value 14 = .ok (.getfield 21, 3) := by decide +kernel
theorem dX2_value_17 : decode cX2_value 17 = .ok (.goto 7, 3) := by decide +kernel
theorem dX2_value_20 : decode cX2_value 20 = .ok (.aload_n 0, 1) := by decide +kernel
theorem dX2_value_21 : decode cX2_value 21 = .ok (.getfield 25, 3) := by decide +kernel
theorem dX2_value_24 : decode cX2_value 24 = .ok (.istore 4, 2) := by decide +kernel
theorem dX2_value_26 : decode cX2_value 26 = .ok (.iload_n 1, 1) := by decide +kernel
theorem dX2_value_27 : decode cX2_value 27 = .ok (.ifCond .ne 10, 3) := by decide +kernel
theorem dX2_value_30 : decode cX2_value 30 = .ok (.aload_n 0, 1) := by decide +kernel
theorem dX2_value_31 : decode cX2_value 31 = .ok (.getfield 21, 3) := by decide +kernel
theorem dX2_value_34 : decode cX2_value 34 = .ok (.goto 20, 3) := by decide +kernel
theorem dX2_value_37 : decode cX2_value 37 = .ok (.iload_n 1, 1) := by decide +kernel
theorem dX2_value_38 : decode cX2_value 38 = .ok (.iconst 1, 1) := by decide +kernel
theorem dX2_value_39 : decode cX2_value 39 = .ok (.if_icmp .ne 10, 3) := by decide +kernel
theorem dX2_value_42 : decode cX2_value 42 = .ok (.aload_n 0, 1) := by decide +kernel
theorem dX2_value_43 : decode cX2_value 43 = .ok (.getfield 25, 3) := by decide +kernel
theorem dX2_value_46 : decode cX2_value 46 = .ok (.goto 8, 3) := by decide +kernel
theorem dX2_value_49 : decode cX2_value 49 = .ok (.aload_n 0, 1) := by decide +kernel
theorem dX2_value_50 : decode cX2_value 50 = .ok (.getfield 9, 3) := by decide +kernel
theorem dX2_value_53 : decode cX2_value 53 = .ok (.arraylength, 1) := by decide +kernel
theorem dX2_value_54 : decode cX2_value 54 = .ok (.istore 5, 2) := by decide +kernel
theorem dX2_value_56 : decode cX2_value 56 = .ok (.iconst 0, 1) := by decide +kernel
theorem dX2_value_57 : decode cX2_value 57 = .ok (.istore 6, 2) := by decide +kernel
theorem dX2_value_59 : decode cX2_value 59 = .ok (.iload 4, 2) := by decide +kernel
theorem dX2_value_61 : decode cX2_value 61 = .ok (.istore 7, 2) := by decide +kernel
theorem dX2_value_63 : decode cX2_value 63 = .ok (.iload 7, 2) := by decide +kernel
theorem dX2_value_65 : decode cX2_value 65 = .ok (.iload 5, 2) := by decide +kernel
theorem dX2_value_67 : decode cX2_value 67 = .ok (.if_icmp .ge 158, 3) := by decide +kernel
theorem dX2_value_70 : decode cX2_value 70 = .ok (.aload_n 0, 1) := by decide +kernel
theorem dX2_value_71 : decode cX2_value 71 = .ok (.getfield 9, 3) := by decide +kernel
theorem dX2_value_74 : decode cX2_value 74 = .ok (.iload 7, 2) := by decide +kernel
theorem dX2_value_76 : decode cX2_value 76 = .ok (.iaload, 1) := by decide +kernel
theorem dX2_value_77 : decode cX2_value 77 = .ok (.istore 8, 2) := by decide +kernel
theorem dX2_value_79 : decode cX2_value 79 = .ok (.iload 8, 2) := by decide +kernel
theorem dX2_value_81 : decode cX2_value 81 = .ok (.bipush 6, 2) := by decide +kernel
theorem dX2_value_83 : decode cX2_value 83 = .ok (.if_icmp .lt 10, 3) := by decide +kernel
theorem dX2_value_86 : decode cX2_value 86 = .ok (.iload 8, 2) := by decide +kernel
theorem dX2_value_88 : decode cX2_value 88 = .ok (.bipush 32, 2) := by decide +kernel
theorem dX2_value_90 : decode cX2_value 90 = .ok (.if_icmp .lt 39, 3) := by decide +kernel
theorem dX2_value_93 : decode cX2_value 93 = .ok (.iload 6, 2) := by decide +kernel
theorem dX2_value_95 : decode cX2_value 95 = .ok (.aload_n 3, 1) := by decide +kernel
theorem dX2_value_96 : decode cX2_value 96 = .ok (.arraylength, 1) := by decide +kernel
theorem dX2_value_97 : decode cX2_value 97 = .ok (.if_icmp .ge 122, 3) := by decide +kernel
theorem dX2_value_100 : decode cX2_value 100 = .ok (.aload_n 3, 1) := by decide +kernel
theorem dX2_value_101 : decode cX2_value 101 = .ok (.iload 6, 2) := by decide +kernel
theorem dX2_value_103 : decode cX2_value 103 = .ok (.iload 8, 2) := by decide +kernel
theorem dX2_value_105 : decode cX2_value 105 = .ok (.bipush 6, 2) := by decide +kernel
theorem dX2_value_107 : decode cX2_value 107 = .ok (.if_icmp .ge 10, 3) := by decide +kernel
theorem dX2_value_110 : decode cX2_value 110 = .ok (.aload_n 2, 1) := by decide +kernel
theorem dX2_value_111 : decode cX2_value 111 = .ok (.iload 8, 2) := by decide +kernel
theorem dX2_value_113 : decode cX2_value 113 = .ok (.iaload, 1) := by decide +kernel
theorem dX2_value_114 : decode cX2_value 114 = .ok (.goto 8, 3) := by decide +kernel
theorem dX2_value_117 : decode cX2_value 117 = .ok (.iload 8, 2) := by decide +kernel
theorem dX2_value_119 : decode cX2_value 119 = .ok (.bipush 32, 2) := by decide +kernel
theorem dX2_value_121 : decode cX2_value 121 = .ok (.isub, 1) := by decide +kernel
theorem dX2_value_122 : decode cX2_value 122 = .ok (.iastore, 1) := by decide +kernel
theorem dX2_value_123 : decode cX2_value 123 = .ok (.iinc 6 1, 3) := by decide +kernel
theorem dX2_value_126 : decode cX2_value 126 = .ok (.goto 93, 3) := by decide +kernel
theorem dX2_value_129 : decode cX2_value 129 = .ok (.iload 8, 2) := by decide +kernel
theorem dX2_value_131 : decode cX2_value 131 = .ok (.bipush 8, 2) := by decide +kernel
theorem dX2_value_133 : decode cX2_value 133 = .ok (.if_icmp .eq 10, 3) := by decide +kernel
theorem dX2_value_136 : decode cX2_value 136 = .ok (.iload 8, 2) := by decide +kernel
theorem dX2_value_138 : decode cX2_value 138 = .ok (.bipush 20, 2) := by decide +kernel
theorem dX2_value_140 : decode cX2_value 140 = .ok (.if_icmp .ne 49, 3) := by decide +kernel
theorem dX2_value_143 : decode cX2_value 143 = .ok (.iload 6, 2) := by decide +kernel
theorem dX2_value_145 : decode cX2_value 145 = .ok (.iconst 1, 1) := by decide +kernel
theorem dX2_value_146 : decode cX2_value 146 = .ok (.if_icmp .lt 73, 3) := by decide +kernel
theorem dX2_value_149 : decode cX2_value 149 = .ok (.aload_n 3, 1) := by decide +kernel
theorem dX2_value_150 : decode cX2_value 150 = .ok (.iload 6, 2) := by decide +kernel
theorem dX2_value_152 : decode cX2_value 152 = .ok (.iconst 1, 1) := by decide +kernel
theorem dX2_value_153 : decode cX2_value 153 = .ok (.isub, 1) := by decide +kernel
theorem dX2_value_154 : decode cX2_value 154 = .ok (.iaload, 1) := by decide +kernel
theorem dX2_value_155 : decode cX2_value 155 = .ok (.istore 9, 2) := by decide +kernel
theorem dX2_value_157 : decode cX2_value 157 = .ok (.aload_n 3, 1) := by decide +kernel
theorem dX2_value_158 : decode cX2_value 158 = .ok (.iload 6, 2) := by decide +kernel
theorem dX2_value_160 : decode cX2_value 160 = .ok (.iconst 1, 1) := by decide +kernel
theorem dX2_value_161 : decode cX2_value 161 = .ok (.isub, 1) := by decide +kernel
theorem dX2_value_162 : decode cX2_value 162 = .ok (.iload 8, 2) := by decide +kernel
theorem dX2_value_164 : decode cX2_value 164 = .ok (.bipush 20, 2) := by decide +kernel
theorem dX2_value_166 : decode cX2_value 166 = .ok (.if_icmp .ne 9, 3) := by decide +kernel
theorem dX2_value_169 : decode cX2_value 169 = .ok (.iload 9, 2) := by decide +kernel
theorem dX2_value_171 : decode cX2_value 171 = .ok (.ineg, 1) := by decide +kernel
theorem dX2_value_172 : decode cX2_value 172 = .ok (.goto 13, 3) := by decide +kernel
theorem dX2_value_175 : decode cX2_value 175 = .ok (.iload 9, 2) := by decide +kernel
theorem dX2_value_177 : decode cX2_value 177 = .ok (.ifCond .ne 7, 3) := by decide +kernel
theorem dX2_value_180 : decode cX2_value 180 = .ok (.iconst 1, 1) := by decide +kernel
theorem dX2_value_181 : decode cX2_value 181 = .ok (.goto 4, 3) := by decide +kernel
theorem dX2_value_184 : decode cX2_value 184 = .ok (.iconst 0, 1) := by decide +kernel
theorem dX2_value_185 : decode cX2_value 185 = .ok (.iastore, 1) := by decide +kernel
theorem dX2_value_186 : decode cX2_value 186 = .ok (.goto 33, 3) := by decide +kernel
theorem dX2_value_189 : decode cX2_value 189 = .ok (.iload 6, 2) := by decide +kernel
theorem dX2_value_191 : decode cX2_value 191 = .ok (.iconst 2, 1) := by decide +kernel
theorem dX2_value_192 : decode cX2_value 192 = .ok (.if_icmp .lt 27, 3) := by decide +kernel
theorem dX2_value_195 : decode cX2_value 195 = .ok (.iinc 6 (-1), 3) := by decide +kernel
theorem dX2_value_198 : decode cX2_value 198 = .ok (.aload_n 3, 1) := by decide +kernel
theorem dX2_value_199 : decode cX2_value 199 = .ok (.iload 6, 2) := by decide +kernel
theorem dX2_value_201 : decode cX2_value 201 = .ok (.iconst 1, 1) := by decide +kernel
theorem dX2_value_202 : decode cX2_value 202 = .ok (.isub, 1) := by decide +kernel
theorem dX2_value_203 : decode cX2_value 203 = .ok (.iload 8, 2) := by decide +kernel
theorem dX2_value_205 : decode cX2_value 205 = .ok (.aload_n 3, 1) := by decide +kernel
theorem dX2_value_206 : decode cX2_value 206 = .ok (.iload 6, 2) := by decide +kernel
theorem dX2_value_208 : decode cX2_value 208 = .ok (.iconst 1, 1) := by decide +kernel
theorem dX2_value_209 : decode cX2_value 209 = .ok (.isub, 1) := by decide +kernel
theorem dX2_value_210 : decode cX2_value 210 = .ok (.iaload, 1) := by decide +kernel
theorem dX2_value_211 : decode cX2_value 211 = .ok (.aload_n 3, 1) := by decide +kernel
theorem dX2_value_212 : decode cX2_value 212 = .ok (.iload 6, 2) := by decide +kernel
theorem dX2_value_214 : decode cX2_value 214 = .ok (.iaload, 1) := by decide +kernel
theorem dX2_value_215 : decode cX2_value 215 = .ok (.invokestatic 30, 3) := by decide +kernel
theorem dX2_value_218 : decode cX2_value 218 = .ok (.iastore, 1) := by decide +kernel
theorem dX2_value_219 : decode cX2_value 219 = .ok (.iinc 7 1, 3) := by decide +kernel
theorem dX2_value_222 : decode cX2_value 222 = .ok (.goto (-159), 3) := by decide +kernel
theorem dX2_value_225 : decode cX2_value 225 = .ok (.iload 6, 2) := by decide +kernel
theorem dX2_value_227 : decode cX2_value 227 = .ok (.iconst 1, 1) := by decide +kernel
theorem dX2_value_228 : decode cX2_value 228 = .ok (.if_icmp .lt 9, 3) := by decide +kernel
theorem dX2_value_231 : decode cX2_value 231 = .ok (.aload_n 3, 1) := by decide +kernel
theorem dX2_value_232 : decode cX2_value 232 = .ok (.iconst 0, 1) := by decide +kernel
theorem dX2_value_233 : decode cX2_value 233 = .ok (.iaload, 1) := by decide +kernel
theorem dX2_value_234 : decode cX2_value 234 = .ok (.goto 4, 3) := by decide +kernel
theorem dX2_value_237 : decode cX2_value 237 = .ok (.iconst 0, 1) := by decide +kernel
theorem dX2_value_238 : decode cX2_value 238 = .ok (.ireturn, 1) := by decide +kernel
theorem dX2_joined_0 : decode cX2_joined 0 = .ok (.iload_n 0, 1) := by decide +kernel
theorem dX2_joined_1 : decode cX2_joined 1 = .ok (.tableswitch 129 6 19 #[71, 85, 129, 129, 129, 129, 129, 129, 129, 121, 125, 129, 99, 110], 71) := by decide +kernel
theorem dX2_joined_72 : decode cX2_joined 72 = .ok (.iload_n 1, 1) := by decide +kernel
theorem dX2_joined_73 : decode cX2_joined 73 = .ok (.ifCond .ne 7, 3) := by decide +kernel
theorem dX2_joined_76 : decode cX2_joined 76 = .ok (.iload_n 2, 1) := by decide +kernel
theorem dX2_joined_77 : decode cX2_joined 77 = .ok (.ifCond .eq 7, 3) := by decide +kernel
theorem dX2_joined_80 : decode cX2_joined 80 = .ok (.iconst 1, 1) := by decide +kernel
theorem dX2_joined_81 : decode cX2_joined 81 = .ok (.goto 4, 3) := by decide +kernel
theorem dX2_joined_84 : decode cX2_joined 84 = .ok (.iconst 0, 1) := by decide +kernel
theorem dX2_joined_85 : decode cX2_joined 85 = .ok (.ireturn, 1) := by decide +kernel
theorem dX2_joined_86 : decode cX2_joined 86 = .ok (.iload_n 1, 1) := by decide +kernel
theorem dX2_joined_87 : decode cX2_joined 87 = .ok (.ifCond .eq 11, 3) := by decide +kernel
theorem dX2_joined_90 : decode cX2_joined 90 = .ok (.iload_n 2, 1) := by decide +kernel
theorem dX2_joined_91 : decode cX2_joined 91 = .ok (.ifCond .eq 7, 3) := by decide +kernel
theorem dX2_joined_94 : decode cX2_joined 94 = .ok (.iconst 1, 1) := by decide +kernel
theorem dX2_joined_95 : decode cX2_joined 95 = .ok (.goto 4, 3) := by decide +kernel
theorem dX2_joined_98 : decode cX2_joined 98 = .ok (.iconst 0, 1) := by decide +kernel
theorem dX2_joined_99 : decode cX2_joined 99 = .ok (.ireturn, 1) := by decide +kernel
theorem dX2_joined_100 : decode cX2_joined 100 = .ok (.iload_n 1, 1) := by decide +kernel
theorem dX2_joined_101 : decode cX2_joined 101 = .ok (.iload_n 2, 1) := by decide +kernel
theorem dX2_joined_102 : decode cX2_joined 102 = .ok (.if_icmp .ge 7, 3) := by decide +kernel
theorem dX2_joined_105 : decode cX2_joined 105 = .ok (.iconst 1, 1) := by decide +kernel
theorem dX2_joined_106 : decode cX2_joined 106 = .ok (.goto 4, 3) := by decide +kernel
theorem dX2_joined_109 : decode cX2_joined 109 = .ok (.iconst 0, 1) := by decide +kernel
theorem dX2_joined_110 : decode cX2_joined 110 = .ok (.ireturn, 1) := by decide +kernel
theorem dX2_joined_111 : decode cX2_joined 111 = .ok (.iload_n 1, 1) := by decide +kernel
theorem dX2_joined_112 : decode cX2_joined 112 = .ok (.iload_n 2, 1) := by decide +kernel
theorem dX2_joined_113 : decode cX2_joined 113 = .ok (.if_icmp .ne 7, 3) := by decide +kernel
theorem dX2_joined_116 : decode cX2_joined 116 = .ok (.iconst 1, 1) := by decide +kernel
theorem dX2_joined_117 : decode cX2_joined 117 = .ok (.goto 4, 3) := by decide +kernel
theorem dX2_joined_120 : decode cX2_joined 120 = .ok (.iconst 0, 1) := by decide +kernel
theorem dX2_joined_121 : decode cX2_joined 121 = .ok (.ireturn, 1) := by decide +kernel
theorem dX2_joined_122 : decode cX2_joined 122 = .ok (.iload_n 1, 1) := by decide +kernel
theorem dX2_joined_123 : decode cX2_joined 123 = .ok (.iload_n 2, 1) := by decide +kernel
theorem dX2_joined_124 : decode cX2_joined 124 = .ok (.iadd, 1) := by decide +kernel
theorem dX2_joined_125 : decode cX2_joined 125 = .ok (.ireturn, 1) := by decide +kernel
theorem dX2_joined_126 : decode cX2_joined 126 = .ok (.iload_n 1, 1) := by decide +kernel
theorem dX2_joined_127 : decode cX2_joined 127 = .ok (.iload_n 2, 1) := by decide +kernel
theorem dX2_joined_128 : decode cX2_joined 128 = .ok (.isub, 1) := by decide +kernel
theorem dX2_joined_129 : decode cX2_joined 129 = .ok (.ireturn, 1) := by decide +kernel
theorem dX2_joined_130 : decode cX2_joined 130 = .ok (.iload_n 1, 1) := by decide +kernel
theorem dX2_joined_131 : decode cX2_joined 131 = .ok (.iload_n 2, 1) := by decide +kernel
theorem dX2_joined_132 : decode cX2_joined 132 = .ok (.imul, 1) := by decide +kernel
theorem dX2_joined_133 : decode cX2_joined 133 = .ok (.ireturn, 1) := by decide +kernel
theorem dX3_init_0 : decode cX3_init 0 = .ok (.aload_n 0, 1) := by decide +kernel
theorem dX3_init_1 : decode cX3_init 1 = .ok (.invokespecial 3, 3) := by decide +kernel
theorem dX3_init_4 : decode cX3_init 4 = .ok (.aload_n 0, 1) := by decide +kernel
theorem dX3_init_5 : decode cX3_init 5 = .ok (.bipush 8, 2) := by decide +kernel
theorem dX3_init_7 : decode cX3_init 7 = .ok (.newarray .int, 2) := by decide +kernel
theorem dX3_init_9 : decode cX3_init 9 = .ok (.putfield 9, 3) := by decide +kernel
theorem dX3_init_12 : decode cX3_init 12 = .ok (.aload_n 0, 1) := by decide +kernel
theorem dX3_init_13 : decode cX3_init 13 = .ok (.bipush 8, 2) := by decide +kernel
theorem dX3_init_15 : decode cX3_init 15 = .ok (.newarray .int, 2) := by decide +kernel
theorem dX3_init_17 : decode cX3_init 17 = .ok (.putfield 15, 3) := by decide +kernel
theorem dX3_init_20 : decode cX3_init 20 = .ok (.aload_n 0, 1) := by decide +kernel
theorem dX3_init_21 : decode cX3_init 21 = .ok (.bipush 8, 2) := by decide +kernel
theorem dX3_init_23 : decode cX3_init 23 = .ok (.newarray .int, 2) := by decide +kernel
theorem dX3_init_25 : decode cX3_init 25 = .ok (.putfield 18, 3) := by decide +kernel
theorem dX3_init_28 : decode cX3_init 28 = .ok (.aload_n 0, 1) := by decide +kernel
theorem dX3_init_29 : decode cX3_init 29 = .ok (.bipush 72, 2) := by decide +kernel
theorem dX3_init_31 : decode cX3_init 31 = .ok (.newarray .int, 2) := by decide +kernel
theorem dX3_init_33 : decode cX3_init 33 = .ok (.putfield 21, 3) := by decide +kernel
theorem dX3_init_36 : decode cX3_init 36 = .ok (.aload_n 0, 1) := by decide +kernel
theorem dX3_init_37 : decode cX3_init 37 = .ok (.iconst 4, 1) := by decide +kernel
theorem dX3_init_38 : decode cX3_init 38 = .ok (.newarray .int, 2) := by decide +kernel
theorem dX3_init_40 : decode cX3_init 40 = .ok (.putfield 24, 3) := by decide +kernel
theorem dX3_init_43 : decode cX3_init 43 = .ok (.aload_n 0, 1) := by decide +kernel
theorem dX3_init_44 : decode cX3_init 44 = .ok (.iconst 4, 1) := by decide +kernel
theorem dX3_init_45 : decode cX3_init 45 = .ok (.newarray .int, 2) := by decide +kernel
theorem dX3_init_47 : decode cX3_init 47 = .ok (.putfield 27, 3) := by decide +kernel
theorem dX3_init_50 : decode cX3_init 50 = .ok (.aload_n 0, 1) := by decide +kernel
theorem dX3_init_51 : decode cX3_init 51 = .ok (.iconst 4, 1) := by decide +kernel
theorem dX3_init_52 : decode cX3_init 52 = .ok (.newarray .int, 2) := by decide +kernel
theorem dX3_init_54 : decode cX3_init 54 = .ok (.putfield 30, 3) := by decide +kernel
theorem dX3_init_57 : decode cX3_init 57 = .ok (.aload_n 0, 1) := by decide +kernel
theorem dX3_init_58 : decode cX3_init 58 = .ok (.aload_n 1, 1) := by decide +kernel
theorem dX3_init_59 : decode cX3_init 59 = .ok (.putfield 33, 3) := by decide +kernel
theorem dX3_init_62 : decode cX3_init 62 = .ok (.return_, 1) := by decide +kernel
theorem dX3_waysOver_0 : decode cX3_waysOver 0 = .ok (.iconst 1, 1) := by decide +kernel
theorem dX3_waysOver_1 : decode cX3_waysOver 1 = .ok (.istore_n 2, 1) := by decide +kernel
theorem dX3_waysOver_2 : decode cX3_waysOver 2 = .ok (.iconst 0, 1) := by decide +kernel
theorem dX3_waysOver_3 : decode cX3_waysOver 3 = .ok (.istore_n 3, 1) := by decide +kernel
theorem dX3_waysOver_4 : decode cX3_waysOver 4 = .ok (.iload_n 3, 1) := by decide +kernel
theorem dX3_waysOver_5 : decode cX3_waysOver 5 = .ok (.aload_n 0, 1) := by decide +kernel
theorem dX3_waysOver_6 : decode cX3_waysOver 6 = .ok (.getfield 33, 3) := by decide +kernel
theorem dX3_waysOver_9 : decode cX3_waysOver 9 = .ok (.getfield 37, 3) := by decide +kernel
theorem dX3_waysOver_12 : decode cX3_waysOver 12 = .ok (.if_icmp .ge 13, 3) := by decide +kernel
theorem dX3_waysOver_15 : decode cX3_waysOver 15 = .ok (.iload_n 2, 1) := by decide +kernel
theorem dX3_waysOver_16 : decode cX3_waysOver 16 = .ok (.iload_n 1, 1) := by decide +kernel
theorem dX3_waysOver_17 : decode cX3_waysOver 17 = .ok (.imul, 1) := by decide +kernel
theorem dX3_waysOver_18 : decode cX3_waysOver 18 = .ok (.istore_n 2, 1) := by decide +kernel
theorem dX3_waysOver_19 : decode cX3_waysOver 19 = .ok (.iinc 3 1, 3) := by decide +kernel
theorem dX3_waysOver_22 : decode cX3_waysOver 22 = .ok (.goto (-18), 3) := by decide +kernel
theorem dX3_waysOver_25 : decode cX3_waysOver 25 = .ok (.iload_n 2, 1) := by decide +kernel
theorem dX3_waysOver_26 : decode cX3_waysOver 26 = .ok (.ireturn, 1) := by decide +kernel
theorem dX3_search_0 : decode cX3_search 0 = .ok (.aload_n 0, 1) := by decide +kernel
theorem dX3_search_1 : decode cX3_search 1 = .ok (.invokevirtual 43, 3) := by decide +kernel
theorem dX3_search_4 : decode cX3_search 4 = .ok (.aload_n 0, 1) := by decide +kernel
theorem dX3_search_5 : decode cX3_search 5 = .ok (.iconst (-1), 1) := by decide +kernel
theorem dX3_search_6 : decode cX3_search 6 = .ok (.putfield 46, 3) := by decide +kernel
theorem dX3_search_9 : decode cX3_search 9 = .ok (.aload_n 0, 1) := by decide +kernel
theorem dX3_search_10 : decode cX3_search 10 = .ok (.iload_n 1, 1) := by decide +kernel
theorem dX3_search_11 : decode cX3_search 11 = .ok (.invokevirtual 49, 3) := by decide +kernel
theorem dX3_search_14 : decode cX3_search 14 = .ok (.istore_n 2, 1) := by decide +kernel
theorem dX3_search_15 : decode cX3_search 15 = .ok (.iload_n 1, 1) := by decide +kernel
theorem dX3_search_16 : decode cX3_search 16 = .ok (.aload_n 0, 1) := by decide +kernel
theorem dX3_search_17 : decode cX3_search 17 = .ok (.getfield 33, 3) := by decide +kernel
theorem dX3_search_20 : decode cX3_search 20 = .ok (.getfield 37, 3) := by decide +kernel
theorem dX3_search_23 : decode cX3_search 23 = .ok (.iconst 2, 1) := by decide +kernel
theorem dX3_search_24 : decode cX3_search 24 = .ok (.idiv, 1) := by decide +kernel
theorem dX3_search_25 : decode cX3_search 25 = .ok (.invokestatic 53, 3) := by decide +kernel
theorem dX3_search_28 : decode cX3_search 28 = .ok (.istore_n 3, 1) := by decide +kernel
theorem dX3_search_29 : decode cX3_search 29 = .ok (.iconst 0, 1) := by decide +kernel
theorem dX3_search_30 : decode cX3_search 30 = .ok (.istore 4, 2) := by decide +kernel
theorem dX3_search_32 : decode cX3_search 32 = .ok (.iload 4, 2) := by decide +kernel
theorem dX3_search_34 : decode cX3_search 34 = .ok (.iload_n 2, 1) := by decide +kernel
theorem dX3_search_35 : decode cX3_search 35 = .ok (.if_icmp .ge 59, 3) := by decide +kernel
theorem dX3_search_38 : decode cX3_search 38 = .ok (.aload_n 0, 1) := by decide +kernel
theorem dX3_search_39 : decode cX3_search 39 = .ok (.getfield 46, 3) := by decide +kernel
theorem dX3_search_42 : decode cX3_search 42 = .ok (.iload_n 3, 1) := by decide +kernel
theorem dX3_search_43 : decode cX3_search 43 = .ok (.if_icmp .ge 51, 3) := by decide +kernel
theorem dX3_search_46 : decode cX3_search 46 = .ok (.aload_n 0, 1) := by decide +kernel
theorem dX3_search_47 : decode cX3_search 47 = .ok (.iload_n 1, 1) := by decide +kernel
theorem dX3_search_48 : decode cX3_search 48 = .ok (.invokevirtual 59, 3) := by decide +kernel
theorem dX3_search_51 : decode cX3_search 51 = .ok (.istore 5, 2) := by decide +kernel
theorem dX3_search_53 : decode cX3_search 53 = .ok (.iload 5, 2) := by decide +kernel
theorem dX3_search_55 : decode cX3_search 55 = .ok (.aload_n 0, 1) := by decide +kernel
theorem dX3_search_56 : decode cX3_search 56 = .ok (.getfield 46, 3) := by decide +kernel
theorem dX3_search_59 : decode cX3_search 59 = .ok (.if_icmp .le 24, 3) := by decide +kernel
theorem dX3_search_62 : decode cX3_search 62 = .ok (.aload_n 0, 1) := by decide +kernel
theorem dX3_search_63 : decode cX3_search 63 = .ok (.iload 5, 2) := by decide +kernel
theorem dX3_search_65 : decode cX3_search 65 = .ok (.putfield 46, 3) := by decide +kernel
theorem dX3_search_68 : decode cX3_search 68 = .ok (.aload_n 0, 1) := by decide +kernel
theorem dX3_search_69 : decode cX3_search 69 = .ok (.getfield 9, 3) := by decide +kernel
theorem dX3_search_72 : decode cX3_search 72 = .ok (.iconst 0, 1) := by decide +kernel
theorem dX3_search_73 : decode cX3_search 73 = .ok (.aload_n 0, 1) := by decide +kernel
theorem dX3_search_74 : decode cX3_search 74 = .ok (.getfield 15, 3) := by decide +kernel
theorem dX3_search_77 : decode cX3_search 77 = .ok (.iconst 0, 1) := by decide +kernel
theorem dX3_search_78 : decode cX3_search 78 = .ok (.bipush 8, 2) := by decide +kernel
theorem dX3_search_80 : decode cX3_search 80 = .ok (.invokestatic 62, 3) := by decide +kernel
theorem dX3_search_83 : decode cX3_search 83 = .ok (.aload_n 0, 1) := by decide +kernel
theorem dX3_search_84 : decode cX3_search 84 = .ok (.iload_n 1, 1) := by decide +kernel
theorem dX3_search_85 : decode cX3_search 85 = .ok (.invokevirtual 68, 3) := by decide +kernel
theorem dX3_search_88 : decode cX3_search 88 = .ok (.iinc 4 1, 3) := by decide +kernel
theorem dX3_search_91 : decode cX3_search 91 = .ok (.goto (-59), 3) := by decide +kernel
theorem dX3_search_94 : decode cX3_search 94 = .ok (.return_, 1) := by decide +kernel
theorem dX3_prepare_0 : decode cX3_prepare 0 = .ok (.iconst 0, 1) := by decide +kernel
theorem dX3_prepare_1 : decode cX3_prepare 1 = .ok (.istore_n 1, 1) := by decide +kernel
theorem dX3_prepare_2 : decode cX3_prepare 2 = .ok (.iload_n 1, 1) := by decide +kernel
theorem dX3_prepare_3 : decode cX3_prepare 3 = .ok (.aload_n 0, 1) := by decide +kernel
theorem dX3_prepare_4 : decode cX3_prepare 4 = .ok (.getfield 33, 3) := by decide +kernel
theorem dX3_prepare_7 : decode cX3_prepare 7 = .ok (.getfield 37, 3) := by decide +kernel
theorem dX3_prepare_10 : decode cX3_prepare 10 = .ok (.if_icmp .ge 66, 3) := by decide +kernel
theorem dX3_prepare_13 : decode cX3_prepare 13 = .ok (.aload_n 0, 1) := by decide +kernel
theorem dX3_prepare_14 : decode cX3_prepare 14 = .ok (.getfield 9, 3) := by decide +kernel
theorem dX3_prepare_17 : decode cX3_prepare 17 = .ok (.iload_n 1, 1) := by decide +kernel
theorem dX3_prepare_18 : decode cX3_prepare 18 = .ok (.iconst 0, 1) := by decide +kernel
theorem dX3_prepare_19 : decode cX3_prepare 19 = .ok (.iastore, 1) := by decide +kernel
theorem dX3_prepare_20 : decode cX3_prepare 20 = .ok (.aload_n 0, 1) := by decide +kernel
theorem dX3_prepare_21 : decode cX3_prepare 21 = .ok (.getfield 18, 3) := by decide +kernel
theorem dX3_prepare_24 : decode cX3_prepare 24 = .ok (.iload_n 1, 1) := by decide +kernel
theorem dX3_prepare_25 : decode cX3_prepare 25 = .ok (.aload_n 0, 1) := by decide +kernel
theorem dX3_prepare_26 : decode cX3_prepare 26 = .ok (.getfield 33, 3) := by decide +kernel
theorem dX3_prepare_29 : decode cX3_prepare 29 = .ok (.iload_n 1, 1) := by decide +kernel
theorem dX3_prepare_30 : decode cX3_prepare 30 = .ok (.invokevirtual 72, 3) := by decide +kernel
theorem dX3_prepare_33 : decode cX3_prepare 33 = .ok (.iastore, 1) := by decide +kernel
theorem dX3_prepare_34 : decode cX3_prepare 34 = .ok (.iconst 2, 1) := by decide +kernel
theorem dX3_prepare_35 : decode cX3_prepare 35 = .ok (.istore_n 2, 1) := by decide +kernel
theorem dX3_prepare_36 : decode cX3_prepare 36 = .ok (.iload_n 2, 1) := by decide +kernel
theorem dX3_prepare_37 : decode cX3_prepare 37 = .ok (.aload_n 0, 1) := by decide +kernel
theorem dX3_prepare_38 : decode cX3_prepare 38 = .ok (.getfield 33, 3) := by decide +kernel
theorem dX3_prepare_41 : decode cX3_prepare 41 = .ok (.getfield 37, 3) := by decide +kernel
theorem dX3_prepare_44 : decode cX3_prepare 44 = .ok (.if_icmp .gt 26, 3) := by decide +kernel
theorem dX3_prepare_47 : decode cX3_prepare 47 = .ok (.aload_n 0, 1) := by decide +kernel
theorem dX3_prepare_48 : decode cX3_prepare 48 = .ok (.getfield 21, 3) := by decide +kernel
theorem dX3_prepare_51 : decode cX3_prepare 51 = .ok (.iload_n 1, 1) := by decide +kernel
theorem dX3_prepare_52 : decode cX3_prepare 52 = .ok (.bipush 9, 2) := by decide +kernel
theorem dX3_prepare_54 : decode cX3_prepare 54 = .ok (.imul, 1) := by decide +kernel
theorem dX3_prepare_55 : decode cX3_prepare 55 = .ok (.iload_n 2, 1) := by decide +kernel
theorem dX3_prepare_56 : decode cX3_prepare 56 = .ok (.iadd, 1) := by decide +kernel
theorem dX3_prepare_57 : decode cX3_prepare 57 = .ok (.aload_n 0, 1) := by decide +kernel
theorem dX3_prepare_58 : decode cX3_prepare 58 = .ok (.iload_n 1, 1) := by decide +kernel
theorem dX3_prepare_59 : decode cX3_prepare 59 = .ok (.iload_n 2, 1) := by decide +kernel
theorem dX3_prepare_60 : decode cX3_prepare 60 = .ok (.invokevirtual 75, 3) := by decide +kernel
theorem dX3_prepare_63 : decode cX3_prepare 63 = .ok (.iastore, 1) := by decide +kernel
theorem dX3_prepare_64 : decode cX3_prepare 64 = .ok (.iinc 2 1, 3) := by decide +kernel
theorem dX3_prepare_67 : decode cX3_prepare 67 = .ok (.goto (-31), 3) := by decide +kernel
theorem dX3_prepare_70 : decode cX3_prepare 70 = .ok (.iinc 1 1, 3) := by decide +kernel
theorem dX3_prepare_73 : decode cX3_prepare 73 = .ok (.goto (-71), 3) := by decide +kernel
theorem dX3_prepare_76 : decode cX3_prepare 76 = .ok (.return_, 1) := by decide +kernel
theorem dX3_awakeOf_0 : decode cX3_awakeOf 0 = .ok (.aload_n 0, 1) := by decide +kernel
theorem dX3_awakeOf_1 : decode cX3_awakeOf 1 = .ok (.getfield 33, 3) := by decide +kernel
theorem dX3_awakeOf_4 : decode cX3_awakeOf 4 = .ok (.getfield 78, 3) := by decide +kernel
theorem dX3_awakeOf_7 : decode cX3_awakeOf 7 = .ok (.iload_n 1, 1) := by decide +kernel
theorem dX3_awakeOf_8 : decode cX3_awakeOf 8 = .ok (.iaload, 1) := by decide +kernel
theorem dX3_awakeOf_9 : decode cX3_awakeOf 9 = .ok (.aload_n 0, 1) := by decide +kernel
theorem dX3_awakeOf_10 : decode cX3_awakeOf 10 = .ok (.getfield 33, 3) := by decide +kernel
theorem dX3_awakeOf_13 : decode cX3_awakeOf 13 = .ok (.getfield 81, 3) := by decide +kernel
theorem dX3_awakeOf_16 : decode cX3_awakeOf 16 = .ok (.invokevirtual 85, 3) := by decide +kernel
theorem dX3_awakeOf_19 : decode cX3_awakeOf 19 = .ok (.iand, 1) := by decide +kernel
theorem dX3_awakeOf_20 : decode cX3_awakeOf 20 = .ok (.istore_n 3, 1) := by decide +kernel
theorem dX3_awakeOf_21 : decode cX3_awakeOf 21 = .ok (.iconst 0, 1) := by decide +kernel
theorem dX3_awakeOf_22 : decode cX3_awakeOf 22 = .ok (.istore 4, 2) := by decide +kernel
theorem dX3_awakeOf_24 : decode cX3_awakeOf 24 = .ok (.iload 4, 2) := by decide +kernel
theorem dX3_awakeOf_26 : decode cX3_awakeOf 26 = .ok (.aload_n 0, 1) := by decide +kernel
theorem dX3_awakeOf_27 : decode cX3_awakeOf 27 = .ok (.getfield 33, 3) := by decide +kernel
theorem dX3_awakeOf_30 : decode cX3_awakeOf 30 = .ok (.getfield 81, 3) := by decide +kernel
theorem dX3_awakeOf_33 : decode cX3_awakeOf 33 = .ok (.getfield 91, 3) := by decide +kernel
theorem dX3_awakeOf_36 : decode cX3_awakeOf 36 = .ok (.if_icmp .ge 43, 3) := by decide +kernel
theorem dX3_awakeOf_39 : decode cX3_awakeOf 39 = .ok (.iload_n 3, 1) := by decide +kernel
theorem dX3_awakeOf_40 : decode cX3_awakeOf 40 = .ok (.iload 4, 2) := by decide +kernel
theorem dX3_awakeOf_42 : decode cX3_awakeOf 42 = .ok (.ishr, 1) := by decide +kernel
theorem dX3_awakeOf_43 : decode cX3_awakeOf 43 = .ok (.iconst 1, 1) := by decide +kernel
theorem dX3_awakeOf_44 : decode cX3_awakeOf 44 = .ok (.iand, 1) := by decide +kernel
theorem dX3_awakeOf_45 : decode cX3_awakeOf 45 = .ok (.iconst 1, 1) := by decide +kernel
theorem dX3_awakeOf_46 : decode cX3_awakeOf 46 = .ok (.if_icmp .ne 27, 3) := by decide +kernel
theorem dX3_awakeOf_49 : decode cX3_awakeOf 49 = .ok (.aload_n 0, 1) := by decide +kernel
theorem dX3_awakeOf_50 : decode cX3_awakeOf 50 = .ok (.getfield 33, 3) := by decide +kernel
theorem dX3_awakeOf_53 : decode cX3_awakeOf 53 = .ok (.iconst 2, 1) := by decide +kernel
theorem dX3_awakeOf_54 : decode cX3_awakeOf 54 = .ok (.iload_n 1, 1) := by decide +kernel
theorem dX3_awakeOf_55 : decode cX3_awakeOf 55 = .ok (.iload 4, 2) := by decide +kernel
theorem dX3_awakeOf_57 : decode cX3_awakeOf 57 = .ok (.iload_n 2, 1) := by decide +kernel
theorem dX3_awakeOf_58 : decode cX3_awakeOf 58 = .ok (.invokevirtual 92, 3) := by decide +kernel
theorem dX3_awakeOf_61 : decode cX3_awakeOf 61 = .ok (.ifCond .eq 12, 3) := by decide +kernel
theorem dX3_awakeOf_64 : decode cX3_awakeOf 64 = .ok (.iload_n 3, 1) := by decide +kernel
theorem dX3_awakeOf_65 : decode cX3_awakeOf 65 = .ok (.iconst 1, 1) := by decide +kernel
theorem dX3_awakeOf_66 : decode cX3_awakeOf 66 = .ok (.iload 4, 2) := by decide +kernel
theorem dX3_awakeOf_68 : decode cX3_awakeOf 68 = .ok (.ishl, 1) := by decide +kernel
theorem dX3_awakeOf_69 : decode cX3_awakeOf 69 = .ok (.iconst (-1), 1) := by decide +kernel
theorem dX3_awakeOf_70 : decode cX3_awakeOf 70 = .ok (.ixor, 1) := by decide +kernel
theorem dX3_awakeOf_71 : decode cX3_awakeOf 71 = .ok (.iand, 1) := by decide +kernel
theorem dX3_awakeOf_72 : decode cX3_awakeOf 72 = .ok (.istore_n 3, 1) := by decide +kernel
theorem dX3_awakeOf_73 : decode cX3_awakeOf 73 = .ok (.iinc 4 1, 3) := by decide +kernel
theorem dX3_awakeOf_76 : decode cX3_awakeOf 76 = .ok (.goto (-52), 3) := by decide +kernel
theorem dX3_awakeOf_79 : decode cX3_awakeOf 79 = .ok (.iload_n 3, 1) := by decide +kernel
theorem dX3_awakeOf_80 : decode cX3_awakeOf 80 = .ok (.ireturn, 1) := by decide +kernel
theorem dX3_nextWay_0 : decode cX3_nextWay 0 = .ok (.iconst 0, 1) := by decide +kernel
theorem dX3_nextWay_1 : decode cX3_nextWay 1 = .ok (.istore_n 2, 1) := by decide +kernel
theorem dX3_nextWay_2 : decode cX3_nextWay 2 = .ok (.iload_n 2, 1) := by decide +kernel
theorem dX3_nextWay_3 : decode cX3_nextWay 3 = .ok (.aload_n 0, 1) := by decide +kernel
theorem dX3_nextWay_4 : decode cX3_nextWay 4 = .ok (.getfield 33, 3) := by decide +kernel
theorem dX3_nextWay_7 : decode cX3_nextWay 7 = .ok (.getfield 37, 3) := by decide +kernel
theorem dX3_nextWay_10 : decode cX3_nextWay 10 = .ok (.if_icmp .ge 37, 3) := by decide +kernel
theorem dX3_nextWay_13 : decode cX3_nextWay 13 = .ok (.aload_n 0, 1) := by decide +kernel
theorem dX3_nextWay_14 : decode cX3_nextWay 14 = .ok (.getfield 9, 3) := by decide +kernel
theorem dX3_nextWay_17 : decode cX3_nextWay 17 = .ok (.iload_n 2, 1) := by decide +kernel
theorem dX3_nextWay_18 : decode cX3_nextWay 18 = .ok (.dup2, 1) := by decide +kernel
theorem dX3_nextWay_19 : decode cX3_nextWay 19 = .ok (.iaload, 1) := by decide +kernel
theorem dX3_nextWay_20 : decode cX3_nextWay 20 = .ok (.iconst 1, 1) := by decide +kernel
theorem dX3_nextWay_21 : decode cX3_nextWay 21 = .ok (.iadd, 1) := by decide +kernel
theorem dX3_nextWay_22 : decode cX3_nextWay 22 = .ok (.iastore, 1) := by decide +kernel
theorem dX3_nextWay_23 : decode cX3_nextWay 23 = .ok (.aload_n 0, 1) := by decide +kernel
theorem dX3_nextWay_24 : decode cX3_nextWay 24 = .ok (.getfield 9, 3) := by decide +kernel
theorem dX3_nextWay_27 : decode cX3_nextWay 27 = .ok (.iload_n 2, 1) := by decide +kernel
theorem dX3_nextWay_28 : decode cX3_nextWay 28 = .ok (.iaload, 1) := by decide +kernel
theorem dX3_nextWay_29 : decode cX3_nextWay 29 = .ok (.iload_n 1, 1) := by decide +kernel
theorem dX3_nextWay_30 : decode cX3_nextWay 30 = .ok (.if_icmp .ge 4, 3) := by decide +kernel
theorem dX3_nextWay_33 : decode cX3_nextWay 33 = .ok (.return_, 1) := by decide +kernel
theorem dX3_nextWay_34 : decode cX3_nextWay 34 = .ok (.aload_n 0, 1) := by decide +kernel
theorem dX3_nextWay_35 : decode cX3_nextWay 35 = .ok (.getfield 9, 3) := by decide +kernel
theorem dX3_nextWay_38 : decode cX3_nextWay 38 = .ok (.iload_n 2, 1) := by decide +kernel
theorem dX3_nextWay_39 : decode cX3_nextWay 39 = .ok (.iconst 0, 1) := by decide +kernel
theorem dX3_nextWay_40 : decode cX3_nextWay 40 = .ok (.iastore, 1) := by decide +kernel
theorem dX3_nextWay_41 : decode cX3_nextWay 41 = .ok (.iinc 2 1, 3) := by decide +kernel
theorem dX3_nextWay_44 : decode cX3_nextWay 44 = .ok (.goto (-42), 3) := by decide +kernel
theorem dX3_nextWay_47 : decode cX3_nextWay 47 = .ok (.return_, 1) := by decide +kernel
theorem dX3_housesWithStory_0 : decode cX3_housesWithStory 0 = .ok (.aload_n 0, 1) := by decide +kernel
theorem dX3_housesWithStory_1 : decode cX3_housesWithStory 1 = .ok (.iload_n 1, 1) := by decide +kernel
theorem dX3_housesWithStory_2 : decode cX3_housesWithStory 2 = .ok (.invokevirtual 96, 3) := by decide +kernel
theorem dX3_housesWithStory_5 : decode cX3_housesWithStory 5 = .ok (.iconst 0, 1) := by decide +kernel
theorem dX3_housesWithStory_6 : decode cX3_housesWithStory 6 = .ok (.istore_n 2, 1) := by decide +kernel
theorem dX3_housesWithStory_7 : decode cX3_housesWithStory 7 = .ok (.iconst 0, 1) := by decide +kernel
theorem dX3_housesWithStory_8 : decode cX3_housesWithStory 8 = .ok (.istore_n 3, 1) := by decide +kernel
theorem dX3_housesWithStory_9 : decode cX3_housesWithStory 9 = .ok (.iload_n 3, 1) := by decide +kernel
theorem dX3_housesWithStory_10 : decode cX3_housesWithStory 10 = .ok (.aload_n 0, 1) := by decide +kernel
theorem dX3_housesWithStory_11 : decode cX3_housesWithStory 11 = .ok (.getfield 33, 3) := by decide +kernel
theorem dX3_housesWithStory_14 : decode cX3_housesWithStory 14 = .ok (.getfield 37, 3) := by decide +kernel
theorem dX3_housesWithStory_17 : decode cX3_housesWithStory 17 = .ok (.if_icmp .ge 86, 3) := by decide +kernel
theorem dX3_housesWithStory_20 : decode cX3_housesWithStory 20 = .ok (.aload_n 0, 1) := by decide +kernel
theorem dX3_housesWithStory_21 : decode cX3_housesWithStory 21 = .ok (.getfield 9, 3) := by decide +kernel
theorem dX3_housesWithStory_24 : decode cX3_housesWithStory 24 = .ok (.iload_n 3, 1) := by decide +kernel
theorem dX3_housesWithStory_25 : decode cX3_housesWithStory 25 = .ok (.iaload, 1) := by decide +kernel
theorem dX3_housesWithStory_26 : decode cX3_housesWithStory 26 = .ok (.istore 4, 2) := by decide +kernel
theorem dX3_housesWithStory_28 : decode cX3_housesWithStory 28 = .ok (.aload_n 0, 1) := by decide +kernel
theorem dX3_housesWithStory_29 : decode cX3_housesWithStory 29 = .ok (.getfield 30, 3) := by decide +kernel
theorem dX3_housesWithStory_32 : decode cX3_housesWithStory 32 = .ok (.iload 4, 2) := by decide +kernel
theorem dX3_housesWithStory_34 : decode cX3_housesWithStory 34 = .ok (.iaload, 1) := by decide +kernel
theorem dX3_housesWithStory_35 : decode cX3_housesWithStory 35 = .ok (.aload_n 0, 1) := by decide +kernel
theorem dX3_housesWithStory_36 : decode cX3_housesWithStory 36 = .ok (.getfield 27, 3) := by decide +kernel
theorem dX3_housesWithStory_39 : decode cX3_housesWithStory 39 = .ok (.iload 4, 2) := by decide +kernel
theorem dX3_housesWithStory_41 : decode cX3_housesWithStory 41 = .ok (.iaload, 1) := by decide +kernel
theorem dX3_housesWithStory_42 : decode cX3_housesWithStory 42 = .ok (.aload_n 0, 1) := by decide +kernel
theorem dX3_housesWithStory_43 : decode cX3_housesWithStory 43 = .ok (.getfield 18, 3) := by decide +kernel
theorem dX3_housesWithStory_46 : decode cX3_housesWithStory 46 = .ok (.iload_n 3, 1) := by decide +kernel
theorem dX3_housesWithStory_47 : decode cX3_housesWithStory 47 = .ok (.iaload, 1) := by decide +kernel
theorem dX3_housesWithStory_48 : decode cX3_housesWithStory 48 = .ok (.iconst (-1), 1) := by decide +kernel
theorem dX3_housesWithStory_49 : decode cX3_housesWithStory 49 = .ok (.ixor, 1) := by decide +kernel
theorem dX3_housesWithStory_50 : decode cX3_housesWithStory 50 = .ok (.iand, 1) := by decide +kernel
theorem dX3_housesWithStory_51 : decode cX3_housesWithStory 51 = .ok (.ior, 1) := by decide +kernel
theorem dX3_housesWithStory_52 : decode cX3_housesWithStory 52 = .ok (.istore 5, 2) := by decide +kernel
theorem dX3_housesWithStory_54 : decode cX3_housesWithStory 54 = .ok (.aload_n 0, 1) := by decide +kernel
theorem dX3_housesWithStory_55 : decode cX3_housesWithStory 55 = .ok (.getfield 24, 3) := by decide +kernel
theorem dX3_housesWithStory_58 : decode cX3_housesWithStory 58 = .ok (.iload 4, 2) := by decide +kernel
theorem dX3_housesWithStory_60 : decode cX3_housesWithStory 60 = .ok (.iaload, 1) := by decide +kernel
theorem dX3_housesWithStory_61 : decode cX3_housesWithStory 61 = .ok (.iconst 2, 1) := by decide +kernel
theorem dX3_housesWithStory_62 : decode cX3_housesWithStory 62 = .ok (.if_icmp .lt 35, 3) := by decide +kernel
theorem dX3_housesWithStory_65 : decode cX3_housesWithStory 65 = .ok (.aload_n 0, 1) := by decide +kernel
theorem dX3_housesWithStory_66 : decode cX3_housesWithStory 66 = .ok (.getfield 21, 3) := by decide +kernel
theorem dX3_housesWithStory_69 : decode cX3_housesWithStory 69 = .ok (.iload_n 3, 1) := by decide +kernel
theorem dX3_housesWithStory_70 : decode cX3_housesWithStory 70 = .ok (.bipush 9, 2) := by decide +kernel
theorem dX3_housesWithStory_72 : decode cX3_housesWithStory 72 = .ok (.imul, 1) := by decide +kernel
theorem dX3_housesWithStory_73 : decode cX3_housesWithStory 73 = .ok (.aload_n 0, 1) := by decide +kernel
theorem dX3_housesWithStory_74 : decode cX3_housesWithStory 74 = .ok (.getfield 24, 3) := by decide +kernel
theorem dX3_housesWithStory_77 : decode cX3_housesWithStory 77 = .ok (.iload 4, 2) := by decide +kernel
theorem dX3_housesWithStory_79 : decode cX3_housesWithStory 79 = .ok (.iaload, 1) := by decide +kernel
theorem dX3_housesWithStory_80 : decode cX3_housesWithStory 80 = .ok (.iadd, 1) := by decide +kernel
theorem dX3_housesWithStory_81 : decode cX3_housesWithStory 81 = .ok (.iaload, 1) := by decide +kernel
theorem dX3_housesWithStory_82 : decode cX3_housesWithStory 82 = .ok (.iload 5, 2) := by decide +kernel
theorem dX3_housesWithStory_84 : decode cX3_housesWithStory 84 = .ok (.iconst (-1), 1) := by decide +kernel
theorem dX3_housesWithStory_85 : decode cX3_housesWithStory 85 = .ok (.ixor, 1) := by decide +kernel
theorem dX3_housesWithStory_86 : decode cX3_housesWithStory 86 = .ok (.iand, 1) := by decide +kernel
theorem dX3_housesWithStory_87 : decode cX3_housesWithStory 87 = .ok (.ifCond .eq 10, 3) := by decide +kernel
theorem dX3_housesWithStory_90 : decode cX3_housesWithStory 90 = .ok (.iload_n 2, 1) := by decide +kernel
theorem dX3_housesWithStory_91 : decode cX3_housesWithStory 91 = .ok (.iconst 1, 1) := by decide +kernel
theorem dX3_housesWithStory_92 : decode cX3_housesWithStory 92 = .ok (.iload 4, 2) := by decide +kernel
theorem dX3_housesWithStory_94 : decode cX3_housesWithStory 94 = .ok (.ishl, 1) := by decide +kernel
theorem dX3_housesWithStory_95 : decode cX3_housesWithStory 95 = .ok (.ior, 1) := by decide +kernel
theorem dX3_housesWithStory_96 : decode cX3_housesWithStory 96 = .ok (.istore_n 2, 1) := by decide +kernel
theorem dX3_housesWithStory_97 : decode cX3_housesWithStory 97 = .ok (.iinc 3 1, 3) := by decide +kernel
theorem dX3_housesWithStory_100 : decode cX3_housesWithStory 100 = .ok (.goto (-91), 3) := by decide +kernel
theorem dX3_housesWithStory_103 : decode cX3_housesWithStory 103 = .ok (.iload_n 2, 1) := by decide +kernel
theorem dX3_housesWithStory_104 : decode cX3_housesWithStory 104 = .ok (.invokestatic 99, 3) := by decide +kernel
theorem dX3_housesWithStory_107 : decode cX3_housesWithStory 107 = .ok (.ireturn, 1) := by decide +kernel
theorem dX3_fillHouses_0 : decode cX3_fillHouses 0 = .ok (.iconst 0, 1) := by decide +kernel
theorem dX3_fillHouses_1 : decode cX3_fillHouses 1 = .ok (.istore_n 2, 1) := by decide +kernel
theorem dX3_fillHouses_2 : decode cX3_fillHouses 2 = .ok (.iload_n 2, 1) := by decide +kernel
theorem dX3_fillHouses_3 : decode cX3_fillHouses 3 = .ok (.iload_n 1, 1) := by decide +kernel
theorem dX3_fillHouses_4 : decode cX3_fillHouses 4 = .ok (.if_icmp .ge 30, 3) := by decide +kernel
theorem dX3_fillHouses_7 : decode cX3_fillHouses 7 = .ok (.aload_n 0, 1) := by decide +kernel
theorem dX3_fillHouses_8 : decode cX3_fillHouses 8 = .ok (.getfield 24, 3) := by decide +kernel
theorem dX3_fillHouses_11 : decode cX3_fillHouses 11 = .ok (.iload_n 2, 1) := by decide +kernel
theorem dX3_fillHouses_12 : decode cX3_fillHouses 12 = .ok (.iconst 0, 1) := by decide +kernel
theorem dX3_fillHouses_13 : decode cX3_fillHouses 13 = .ok (.iastore, 1) := by decide +kernel
theorem dX3_fillHouses_14 : decode cX3_fillHouses 14 = .ok (.aload_n 0, 1) := by decide +kernel
theorem dX3_fillHouses_15 : decode cX3_fillHouses 15 = .ok (.getfield 27, 3) := by decide +kernel
theorem dX3_fillHouses_18 : decode cX3_fillHouses 18 = .ok (.iload_n 2, 1) := by decide +kernel
theorem dX3_fillHouses_19 : decode cX3_fillHouses 19 = .ok (.iconst 0, 1) := by decide +kernel
theorem dX3_fillHouses_20 : decode cX3_fillHouses 20 = .ok (.iastore, 1) := by decide +kernel
theorem dX3_fillHouses_21 : decode cX3_fillHouses 21 = .ok (.aload_n 0, 1) := by decide +kernel
theorem dX3_fillHouses_22 : decode cX3_fillHouses 22 = .ok (.getfield 30, 3) := by decide +kernel
theorem dX3_fillHouses_25 : decode cX3_fillHouses 25 = .ok (.iload_n 2, 1) := by decide +kernel
theorem dX3_fillHouses_26 : decode cX3_fillHouses 26 = .ok (.iconst 0, 1) := by decide +kernel
theorem dX3_fillHouses_27 : decode cX3_fillHouses 27 = .ok (.iastore, 1) := by decide +kernel
theorem dX3_fillHouses_28 : decode cX3_fillHouses 28 = .ok (.iinc 2 1, 3) := by decide +kernel
theorem dX3_fillHouses_31 : decode cX3_fillHouses 31 = .ok (.goto (-29), 3) := by decide +kernel
theorem dX3_fillHouses_34 : decode cX3_fillHouses 34 = .ok (.iconst 0, 1) := by decide +kernel
theorem dX3_fillHouses_35 : decode cX3_fillHouses 35 = .ok (.istore_n 2, 1) := by decide +kernel
theorem dX3_fillHouses_36 : decode cX3_fillHouses 36 = .ok (.iload_n 2, 1) := by decide +kernel
theorem dX3_fillHouses_37 : decode cX3_fillHouses 37 = .ok (.aload_n 0, 1) := by decide +kernel
theorem dX3_fillHouses_38 : decode cX3_fillHouses 38 = .ok (.getfield 33, 3) := by decide +kernel
theorem dX3_fillHouses_41 : decode cX3_fillHouses 41 = .ok (.getfield 37, 3) := by decide +kernel
theorem dX3_fillHouses_44 : decode cX3_fillHouses 44 = .ok (.if_icmp .ge 63, 3) := by decide +kernel
theorem dX3_fillHouses_47 : decode cX3_fillHouses 47 = .ok (.aload_n 0, 1) := by decide +kernel
theorem dX3_fillHouses_48 : decode cX3_fillHouses 48 = .ok (.getfield 9, 3) := by decide +kernel
theorem dX3_fillHouses_51 : decode cX3_fillHouses 51 = .ok (.iload_n 2, 1) := by decide +kernel
theorem dX3_fillHouses_52 : decode cX3_fillHouses 52 = .ok (.iaload, 1) := by decide +kernel
theorem dX3_fillHouses_53 : decode cX3_fillHouses 53 = .ok (.istore_n 3, 1) := by decide +kernel
theorem dX3_fillHouses_54 : decode cX3_fillHouses 54 = .ok (.aload_n 0, 1) := by decide +kernel
theorem dX3_fillHouses_55 : decode cX3_fillHouses 55 = .ok (.getfield 24, 3) := by decide +kernel
theorem dX3_fillHouses_58 : decode cX3_fillHouses 58 = .ok (.iload_n 3, 1) := by decide +kernel
theorem dX3_fillHouses_59 : decode cX3_fillHouses 59 = .ok (.dup2, 1) := by decide +kernel
theorem dX3_fillHouses_60 : decode cX3_fillHouses 60 = .ok (.iaload, 1) := by decide +kernel
theorem dX3_fillHouses_61 : decode cX3_fillHouses 61 = .ok (.iconst 1, 1) := by decide +kernel
theorem dX3_fillHouses_62 : decode cX3_fillHouses 62 = .ok (.iadd, 1) := by decide +kernel
theorem dX3_fillHouses_63 : decode cX3_fillHouses 63 = .ok (.iastore, 1) := by decide +kernel
theorem dX3_fillHouses_64 : decode cX3_fillHouses 64 = .ok (.aload_n 0, 1) := by decide +kernel
theorem dX3_fillHouses_65 : decode cX3_fillHouses 65 = .ok (.getfield 30, 3) := by decide +kernel
theorem dX3_fillHouses_68 : decode cX3_fillHouses 68 = .ok (.iload_n 3, 1) := by decide +kernel
theorem dX3_fillHouses_69 : decode cX3_fillHouses 69 = .ok (.dup2, 1) := by decide +kernel
theorem dX3_fillHouses_70 : decode cX3_fillHouses 70 = .ok (.iaload, 1) := by decide +kernel
theorem dX3_fillHouses_71 : decode cX3_fillHouses 71 = .ok (.aload_n 0, 1) := by decide +kernel
theorem dX3_fillHouses_72 : decode cX3_fillHouses 72 = .ok (.getfield 27, 3) := by decide +kernel
theorem dX3_fillHouses_75 : decode cX3_fillHouses 75 = .ok (.iload_n 3, 1) := by decide +kernel
theorem dX3_fillHouses_76 : decode cX3_fillHouses 76 = .ok (.iaload, 1) := by decide +kernel
theorem dX3_fillHouses_77 : decode cX3_fillHouses 77 = .ok (.aload_n 0, 1) := by decide +kernel
theorem dX3_fillHouses_78 : decode cX3_fillHouses 78 = .ok (.getfield 18, 3) := by decide +kernel
theorem dX3_fillHouses_81 : decode cX3_fillHouses 81 = .ok (.iload_n 2, 1) := by decide +kernel
theorem dX3_fillHouses_82 : decode cX3_fillHouses 82 = .ok (.iaload, 1) := by decide +kernel
theorem dX3_fillHouses_83 : decode cX3_fillHouses 83 = .ok (.iand, 1) := by decide +kernel
theorem dX3_fillHouses_84 : decode cX3_fillHouses 84 = .ok (.ior, 1) := by decide +kernel
theorem dX3_fillHouses_85 : decode cX3_fillHouses 85 = .ok (.iastore, 1) := by decide +kernel
theorem dX3_fillHouses_86 : decode cX3_fillHouses 86 = .ok (.aload_n 0, 1) := by decide +kernel
theorem dX3_fillHouses_87 : decode cX3_fillHouses 87 = .ok (.getfield 27, 3) := by decide +kernel
theorem dX3_fillHouses_90 : decode cX3_fillHouses 90 = .ok (.iload_n 3, 1) := by decide +kernel
theorem dX3_fillHouses_91 : decode cX3_fillHouses 91 = .ok (.dup2, 1) := by decide +kernel
theorem dX3_fillHouses_92 : decode cX3_fillHouses 92 = .ok (.iaload, 1) := by decide +kernel
theorem dX3_fillHouses_93 : decode cX3_fillHouses 93 = .ok (.aload_n 0, 1) := by decide +kernel
theorem dX3_fillHouses_94 : decode cX3_fillHouses 94 = .ok (.getfield 18, 3) := by decide +kernel
theorem dX3_fillHouses_97 : decode cX3_fillHouses 97 = .ok (.iload_n 2, 1) := by decide +kernel
theorem dX3_fillHouses_98 : decode cX3_fillHouses 98 = .ok (.iaload, 1) := by decide +kernel
theorem dX3_fillHouses_99 : decode cX3_fillHouses 99 = .ok (.ior, 1) := by decide +kernel
theorem dX3_fillHouses_100 : decode cX3_fillHouses 100 = .ok (.iastore, 1) := by decide +kernel
theorem dX3_fillHouses_101 : decode cX3_fillHouses 101 = .ok (.iinc 2 1, 3) := by decide +kernel
theorem dX3_fillHouses_104 : decode cX3_fillHouses 104 = .ok (.goto (-68), 3) := by decide +kernel
theorem dX3_fillHouses_107 : decode cX3_fillHouses 107 = .ok (.return_, 1) := by decide +kernel
end
section
theorem dX1_init_0 : decode cX1_init 0 = .ok (.aload_n 0, 1) := by decide +kernel
theorem dX1_init_1 : decode cX1_init 1 = .ok (.invokespecial 3, 3) := by decide +kernel
theorem dX1_init_4 : decode cX1_init 4 = .ok (.aload_n 0, 1) := by decide +kernel
theorem dX1_init_5 : decode cX1_init 5 = .ok (.sipush 160, 3) := by decide +kernel
theorem dX1_init_8 : decode cX1_init 8 = .ok (.newarray .int, 2) := by decide +kernel
theorem dX1_init_10 : decode cX1_init 10 = .ok (.putfield 9, 3) := by decide +kernel
theorem dX1_init_13 : decode cX1_init 13 = .ok (.aload_n 0, 1) := by decide +kernel
theorem dX1_init_14 : decode cX1_init 14 = .ok (.sipush 160, 3) := by decide +kernel
theorem dX1_init_17 : decode cX1_init 17 = .ok (.newarray .int, 2) := by decide +kernel
theorem dX1_init_19 : decode cX1_init 19 = .ok (.putfield 15, 3) := by decide +kernel
theorem dX1_init_22 : decode cX1_init 22 = .ok (.aload_n 0, 1) := by decide +kernel
theorem dX1_init_23 : decode cX1_init 23 = .ok (.iconst 3, 1) := by decide +kernel
theorem dX1_init_24 : decode cX1_init 24 = .ok (.newarray .int, 2) := by decide +kernel
theorem dX1_init_26 : decode cX1_init 26 = .ok (.putfield 18, 3) := by decide +kernel
theorem dX1_init_29 : decode cX1_init 29 = .ok (.return_, 1) := by decide +kernel
theorem dX1_put_0 : decode cX1_put 0 = .ok (.aload_n 0, 1) := by decide +kernel
theorem dX1_put_1 : decode cX1_put 1 = .ok (.getfield 21, 3) := by decide +kernel
theorem dX1_put_4 : decode cX1_put 4 = .ok (.sipush 160, 3) := by decide +kernel
theorem dX1_put_7 : decode cX1_put 7 = .ok (.if_icmp .lt 6, 3) := by decide +kernel
theorem dX1_put_10 : decode cX1_put 10 = .ok (.bipush (-4), 2) := by decide +kernel
theorem dX1_put_12 : decode cX1_put 12 = .ok (.ireturn, 1) := by decide +kernel
theorem dX1_put_13 : decode cX1_put 13 = .ok (.aload_n 0, 1) := by decide +kernel
theorem dX1_put_14 : decode cX1_put 14 = .ok (.getfield 9, 3) := by decide +kernel
theorem dX1_put_17 : decode cX1_put 17 = .ok (.aload_n 0, 1) := by decide +kernel
theorem dX1_put_18 : decode cX1_put 18 = .ok (.getfield 21, 3) := by decide +kernel
theorem dX1_put_21 : decode cX1_put 21 = .ok (.iload_n 1, 1) := by decide +kernel
theorem dX1_put_22 : decode cX1_put 22 = .ok (.iastore, 1) := by decide +kernel
theorem dX1_put_23 : decode cX1_put 23 = .ok (.aload_n 0, 1) := by decide +kernel
theorem dX1_put_24 : decode cX1_put 24 = .ok (.dup, 1) := by decide +kernel
theorem dX1_put_25 : decode cX1_put 25 = .ok (.getfield 21, 3) := by decide +kernel
theorem dX1_put_28 : decode cX1_put 28 = .ok (.iconst 1, 1) := by decide +kernel
theorem dX1_put_29 : decode cX1_put 29 = .ok (.iadd, 1) := by decide +kernel
theorem dX1_put_30 : decode cX1_put 30 = .ok (.putfield 21, 3) := by decide +kernel
theorem dX1_put_33 : decode cX1_put 33 = .ok (.aload_n 0, 1) := by decide +kernel
theorem dX1_put_34 : decode cX1_put 34 = .ok (.getfield 21, 3) := by decide +kernel
theorem dX1_put_37 : decode cX1_put 37 = .ok (.ireturn, 1) := by decide +kernel
theorem dX1_putFirstText_0 : decode cX1_putFirstText 0 = .ok (.iconst 0, 1) := by decide +kernel
theorem dX1_putFirstText_1 : decode cX1_putFirstText 1 = .ok (.istore_n 1, 1) := by decide +kernel
theorem dX1_putFirstText_2 : decode cX1_putFirstText 2 = .ok (.iload_n 1, 1) := by decide +kernel
theorem dX1_putFirstText_3 : decode cX1_putFirstText 3 = .ok (.ldc 25, 2) := by decide +kernel
theorem dX1_putFirstText_5 : decode cX1_putFirstText 5 = .ok (.invokevirtual 27, 3) := by decide +kernel
theorem dX1_putFirstText_8 : decode cX1_putFirstText 8 = .ok (.if_icmp .ge 20, 3) := by decide +kernel
theorem dX1_putFirstText_11 : decode cX1_putFirstText 11 = .ok (.aload_n 0, 1) := by decide +kernel
theorem dX1_putFirstText_12 : decode cX1_putFirstText 12 = .ok (.ldc 25, 2) := by decide +kernel
theorem dX1_putFirstText_14 : decode cX1_putFirstText 14 = .ok (.iload_n 1, 1) := by decide +kernel
theorem dX1_putFirstText_15 : decode cX1_putFirstText 15 = .ok (.invokevirtual 33, 3) := by decide +kernel
theorem dX1_putFirstText_18 : decode cX1_putFirstText 18 = .ok (.invokevirtual 37, 3) := by decide +kernel
theorem dX1_putFirstText_21 : decode cX1_putFirstText 21 = .ok (.pop, 1) := by decide +kernel
theorem dX1_putFirstText_22 : decode cX1_putFirstText 22 = .ok (.iinc 1 1, 3) := by decide +kernel
theorem dX1_putFirstText_25 : decode cX1_putFirstText 25 = .ok (.goto (-23), 3) := by decide +kernel
theorem dX1_putFirstText_28 : decode cX1_putFirstText 28 = .ok (.return_, 1) := by decide +kernel
theorem dX1_empty_0 : decode cX1_empty 0 = .ok (.aload_n 0, 1) := by decide +kernel
theorem dX1_empty_1 : decode cX1_empty 1 = .ok (.iconst 0, 1) := by decide +kernel
theorem dX1_empty_2 : decode cX1_empty 2 = .ok (.putfield 21, 3) := by decide +kernel
theorem dX1_empty_5 : decode cX1_empty 5 = .ok (.return_, 1) := by decide +kernel
theorem dX1_place_0 : decode cX1_place 0 = .ok (.aload_n 0, 1) := by decide +kernel
theorem dX1_place_1 : decode cX1_place 1 = .ok (.getfield 41, 3) := by decide +kernel
theorem dX1_place_4 : decode cX1_place 4 = .ok (.ireturn, 1) := by decide +kernel
theorem dX1_made_0 : decode cX1_made 0 = .ok (.new 44, 3) := by decide +kernel
theorem dX1_made_3 : decode cX1_made 3 = .ok (.dup, 1) := by decide +kernel
theorem dX1_made_4 : decode cX1_made 4 = .ok (.aload_n 0, 1) := by decide +kernel
theorem dX1_made_5 : decode cX1_made 5 = .ok (.getfield 15, 3) := by decide +kernel
theorem dX1_made_8 : decode cX1_made 8 = .ok (.aload_n 0, 1) := by decide +kernel
theorem dX1_made_9 : decode cX1_made 9 = .ok (.getfield 46, 3) := by decide +kernel
theorem dX1_made_12 : decode cX1_made 12 = .ok (.aload_n 0, 1) := by decide +kernel
theorem dX1_made_13 : decode cX1_made 13 = .ok (.getfield 18, 3) := by decide +kernel
theorem dX1_made_16 : decode cX1_made 16 = .ok (.iconst 1, 1) := by decide +kernel
theorem dX1_made_17 : decode cX1_made 17 = .ok (.iaload, 1) := by decide +kernel
theorem dX1_made_18 : decode cX1_made 18 = .ok (.aload_n 0, 1) := by decide +kernel
theorem dX1_made_19 : decode cX1_made 19 = .ok (.getfield 18, 3) := by decide +kernel
theorem dX1_made_22 : decode cX1_made 22 = .ok (.iconst 2, 1) := by decide +kernel
theorem dX1_made_23 : decode cX1_made 23 = .ok (.iaload, 1) := by decide +kernel
theorem dX1_made_24 : decode cX1_made 24 = .ok (.invokespecial 49, 3) := by decide +kernel
theorem dX1_made_27 : decode cX1_made 27 = .ok (.areturn, 1) := by decide +kernel
theorem dX1_reads_0 : decode cX1_reads 0 = .ok (.aload_n 0, 1) := by decide +kernel
theorem dX1_reads_1 : decode cX1_reads 1 = .ok (.iconst 0, 1) := by decide +kernel
theorem dX1_reads_2 : decode cX1_reads 2 = .ok (.putfield 52, 3) := by decide +kernel
theorem dX1_reads_5 : decode cX1_reads 5 = .ok (.aload_n 0, 1) := by decide +kernel
theorem dX1_reads_6 : decode cX1_reads 6 = .ok (.iconst 0, 1) := by decide +kernel
theorem dX1_reads_7 : decode cX1_reads 7 = .ok (.putfield 55, 3) := by decide +kernel
theorem dX1_reads_10 : decode cX1_reads 10 = .ok (.aload_n 0, 1) := by decide +kernel
theorem dX1_reads_11 : decode cX1_reads 11 = .ok (.iconst 0, 1) := by decide +kernel
theorem dX1_reads_12 : decode cX1_reads 12 = .ok (.putfield 46, 3) := by decide +kernel
theorem dX1_reads_15 : decode cX1_reads 15 = .ok (.aload_n 0, 1) := by decide +kernel
theorem dX1_reads_16 : decode cX1_reads 16 = .ok (.invokevirtual 58, 3) := by decide +kernel
theorem dX1_reads_19 : decode cX1_reads 19 = .ok (.iconst 1, 1) := by decide +kernel
theorem dX1_reads_20 : decode cX1_reads 20 = .ok (.istore_n 1, 1) := by decide +kernel
theorem dX1_reads_21 : decode cX1_reads 21 = .ok (.iconst 0, 1) := by decide +kernel
theorem dX1_reads_22 : decode cX1_reads 22 = .ok (.istore_n 2, 1) := by decide +kernel
theorem dX1_reads_23 : decode cX1_reads 23 = .ok (.iload_n 2, 1) := by decide +kernel
theorem dX1_reads_24 : decode cX1_reads 24 = .ok (.iconst 3, 1) := by decide +kernel
theorem dX1_reads_25 : decode cX1_reads 25 = .ok (.if_icmp .ge 57, 3) := by decide +kernel
theorem dX1_reads_28 : decode cX1_reads 28 = .ok (.iload_n 1, 1) := by decide +kernel
theorem dX1_reads_29 : decode cX1_reads 29 = .ok (.ifCond .eq 53, 3) := by decide +kernel
theorem dX1_reads_32 : decode cX1_reads 32 = .ok (.aload_n 0, 1) := by decide +kernel
theorem dX1_reads_33 : decode cX1_reads 33 = .ok (.getfield 18, 3) := by decide +kernel
theorem dX1_reads_36 : decode cX1_reads 36 = .ok (.iload_n 2, 1) := by decide +kernel
theorem dX1_reads_37 : decode cX1_reads 37 = .ok (.aload_n 0, 1) := by decide +kernel
theorem dX1_reads_38 : decode cX1_reads 38 = .ok (.getfield 46, 3) := by decide +kernel
theorem dX1_reads_41 : decode cX1_reads 41 = .ok (.iastore, 1) := by decide +kernel
theorem dX1_reads_42 : decode cX1_reads 42 = .ok (.aload_n 0, 1) := by decide +kernel
theorem dX1_reads_43 : decode cX1_reads 43 = .ok (.bipush 9, 2) := by decide +kernel
theorem dX1_reads_45 : decode cX1_reads 45 = .ok (.iload_n 2, 1) := by decide +kernel
theorem dX1_reads_46 : decode cX1_reads 46 = .ok (.iadd, 1) := by decide +kernel
theorem dX1_reads_47 : decode cX1_reads 47 = .ok (.invokevirtual 63, 3) := by decide +kernel
theorem dX1_reads_50 : decode cX1_reads 50 = .ok (.ifCond .eq 24, 3) := by decide +kernel
theorem dX1_reads_53 : decode cX1_reads 53 = .ok (.aload_n 0, 1) := by decide +kernel
theorem dX1_reads_54 : decode cX1_reads 54 = .ok (.iconst 0, 1) := by decide +kernel
theorem dX1_reads_55 : decode cX1_reads 55 = .ok (.invokevirtual 67, 3) := by decide +kernel
theorem dX1_reads_58 : decode cX1_reads 58 = .ok (.ifCond .eq 16, 3) := by decide +kernel
theorem dX1_reads_61 : decode cX1_reads 61 = .ok (.aload_n 0, 1) := by decide +kernel
theorem dX1_reads_62 : decode cX1_reads 62 = .ok (.bipush 14, 2) := by decide +kernel
theorem dX1_reads_64 : decode cX1_reads 64 = .ok (.invokevirtual 63, 3) := by decide +kernel
theorem dX1_reads_67 : decode cX1_reads 67 = .ok (.ifCond .eq 7, 3) := by decide +kernel
theorem dX1_reads_70 : decode cX1_reads 70 = .ok (.iconst 1, 1) := by decide +kernel
theorem dX1_reads_71 : decode cX1_reads 71 = .ok (.goto 4, 3) := by decide +kernel
theorem dX1_reads_74 : decode cX1_reads 74 = .ok (.iconst 0, 1) := by decide +kernel
theorem dX1_reads_75 : decode cX1_reads 75 = .ok (.istore_n 1, 1) := by decide +kernel
theorem dX1_reads_76 : decode cX1_reads 76 = .ok (.iinc 2 1, 3) := by decide +kernel
theorem dX1_reads_79 : decode cX1_reads 79 = .ok (.goto (-56), 3) := by decide +kernel
theorem dX1_reads_82 : decode cX1_reads 82 = .ok (.iload_n 1, 1) := by decide +kernel
theorem dX1_reads_83 : decode cX1_reads 83 = .ok (.ifCond .eq 16, 3) := by decide +kernel
theorem dX1_reads_86 : decode cX1_reads 86 = .ok (.aload_n 0, 1) := by decide +kernel
theorem dX1_reads_87 : decode cX1_reads 87 = .ok (.getfield 70, 3) := by decide +kernel
theorem dX1_reads_90 : decode cX1_reads 90 = .ok (.bipush 21, 2) := by decide +kernel
theorem dX1_reads_92 : decode cX1_reads 92 = .ok (.if_icmp .ne 7, 3) := by decide +kernel
theorem dX1_reads_95 : decode cX1_reads 95 = .ok (.iconst 1, 1) := by decide +kernel
theorem dX1_reads_96 : decode cX1_reads 96 = .ok (.goto 4, 3) := by decide +kernel
theorem dX1_reads_99 : decode cX1_reads 99 = .ok (.iconst 0, 1) := by decide +kernel
theorem dX1_reads_100 : decode cX1_reads 100 = .ok (.ireturn, 1) := by decide +kernel
theorem dX1_readsLevel_0 : decode cX1_readsLevel 0 = .ok (.iload_n 1, 1) := by decide +kernel
theorem dX1_readsLevel_1 : decode cX1_readsLevel 1 = .ok (.iconst 2, 1) := by decide +kernel
theorem dX1_readsLevel_2 : decode cX1_readsLevel 2 = .ok (.if_icmp .ne 17, 3) := by decide +kernel
theorem dX1_readsLevel_5 : decode cX1_readsLevel 5 = .ok (.aload_n 0, 1) := by decide +kernel
theorem dX1_readsLevel_6 : decode cX1_readsLevel 6 = .ok (.getfield 70, 3) := by decide +kernel
theorem dX1_readsLevel_9 : decode cX1_readsLevel 9 = .ok (.bipush 8, 2) := by decide +kernel
theorem dX1_readsLevel_11 : decode cX1_readsLevel 11 = .ok (.if_icmp .ne 8, 3) := by decide +kernel
theorem dX1_readsLevel_14 : decode cX1_readsLevel 14 = .ok (.aload_n 0, 1) := by decide +kernel
theorem dX1_readsLevel_15 : decode cX1_readsLevel 15 = .ok (.invokevirtual 73, 3) := by decide +kernel
theorem dX1_readsLevel_18 : decode cX1_readsLevel 18 = .ok (.ireturn, 1) := by decide +kernel
theorem dX1_readsLevel_19 : decode cX1_readsLevel 19 = .ok (.iload_n 1, 1) := by decide +kernel
theorem dX1_readsLevel_20 : decode cX1_readsLevel 20 = .ok (.iconst 5, 1) := by decide +kernel
theorem dX1_readsLevel_21 : decode cX1_readsLevel 21 = .ok (.if_icmp .lt 33, 3) := by decide +kernel
theorem dX1_readsLevel_24 : decode cX1_readsLevel 24 = .ok (.aload_n 0, 1) := by decide +kernel
theorem dX1_readsLevel_25 : decode cX1_readsLevel 25 = .ok (.getfield 70, 3) := by decide +kernel
theorem dX1_readsLevel_28 : decode cX1_readsLevel 28 = .ok (.bipush 16, 2) := by decide +kernel
theorem dX1_readsLevel_30 : decode cX1_readsLevel 30 = .ok (.if_icmp .eq 12, 3) := by decide +kernel
theorem dX1_readsLevel_33 : decode cX1_readsLevel 33 = .ok (.aload_n 0, 1) := by decide +kernel
theorem dX1_readsLevel_34 : decode cX1_readsLevel 34 = .ok (.getfield 70, 3) := by decide +kernel
theorem dX1_readsLevel_37 : decode cX1_readsLevel 37 = .ok (.bipush 12, 2) := by decide +kernel
theorem dX1_readsLevel_39 : decode cX1_readsLevel 39 = .ok (.if_icmp .ne 10, 3) := by decide +kernel
theorem dX1_readsLevel_42 : decode cX1_readsLevel 42 = .ok (.aload_n 0, 1) := by decide +kernel
theorem dX1_readsLevel_43 : decode cX1_readsLevel 43 = .ok (.invokevirtual 73, 3) := by decide +kernel
theorem dX1_readsLevel_46 : decode cX1_readsLevel 46 = .ok (.goto 7, 3) := by decide +kernel
theorem dX1_readsLevel_49 : decode cX1_readsLevel 49 = .ok (.aload_n 0, 1) := by decide +kernel
theorem dX1_readsLevel_50 : decode cX1_readsLevel 50 = .ok (.invokevirtual 77, 3) := by decide +kernel
theorem dX1_readsLevel_53 : decode cX1_readsLevel 53 = .ok (.ireturn, 1) := by decide +kernel
theorem dX1_readsLevel_54 : decode cX1_readsLevel 54 = .ok (.aload_n 0, 1) := by decide +kernel
theorem dX1_readsLevel_55 : decode cX1_readsLevel 55 = .ok (.iload_n 1, 1) := by decide +kernel
theorem dX1_readsLevel_56 : decode cX1_readsLevel 56 = .ok (.iconst 1, 1) := by decide +kernel
theorem dX1_readsLevel_57 : decode cX1_readsLevel 57 = .ok (.iadd, 1) := by decide +kernel
theorem dX1_readsLevel_58 : decode cX1_readsLevel 58 = .ok (.invokevirtual 67, 3) := by decide +kernel
theorem dX1_readsLevel_61 : decode cX1_readsLevel 61 = .ok (.istore_n 2, 1) := by decide +kernel
theorem dX1_readsLevel_62 : decode cX1_readsLevel 62 = .ok (.iload_n 1, 1) := by decide +kernel
theorem dX1_readsLevel_63 : decode cX1_readsLevel 63 = .ok (.iconst 2, 1) := by decide +kernel
theorem dX1_readsLevel_64 : decode cX1_readsLevel 64 = .ok (.if_icmp .ne 7, 3) := by decide +kernel
theorem dX1_readsLevel_67 : decode cX1_readsLevel 67 = .ok (.iconst 1, 1) := by decide +kernel
theorem dX1_readsLevel_68 : decode cX1_readsLevel 68 = .ok (.goto 6, 3) := by decide +kernel
theorem dX1_readsLevel_71 : decode cX1_readsLevel 71 = .ok (.sipush 160, 3) := by decide +kernel
theorem dX1_readsLevel_74 : decode cX1_readsLevel 74 = .ok (.istore_n 3, 1) := by decide +kernel
theorem dX1_readsLevel_75 : decode cX1_readsLevel 75 = .ok (.iconst 0, 1) := by decide +kernel
theorem dX1_readsLevel_76 : decode cX1_readsLevel 76 = .ok (.istore 4, 2) := by decide +kernel
theorem dX1_readsLevel_78 : decode cX1_readsLevel 78 = .ok (.iload 4, 2) := by decide +kernel
theorem dX1_readsLevel_80 : decode cX1_readsLevel 80 = .ok (.iload_n 3, 1) := by decide +kernel
theorem dX1_readsLevel_81 : decode cX1_readsLevel 81 = .ok (.if_icmp .ge 48, 3) := by decide +kernel
theorem dX1_readsLevel_84 : decode cX1_readsLevel 84 = .ok (.iload_n 2, 1) := by decide +kernel
theorem dX1_readsLevel_85 : decode cX1_readsLevel 85 = .ok (.ifCond .eq 44, 3) := by decide +kernel
theorem dX1_readsLevel_88 : decode cX1_readsLevel 88 = .ok (.aload_n 0, 1) := by decide +kernel
theorem dX1_readsLevel_89 : decode cX1_readsLevel 89 = .ok (.getfield 70, 3) := by decide +kernel
theorem dX1_readsLevel_92 : decode cX1_readsLevel 92 = .ok (.invokestatic 80, 3) := by decide +kernel
theorem dX1_readsLevel_95 : decode cX1_readsLevel 95 = .ok (.iload_n 1, 1) := by decide +kernel
theorem dX1_readsLevel_96 : decode cX1_readsLevel 96 = .ok (.if_icmp .ne 33, 3) := by decide +kernel
theorem dX1_readsLevel_99 : decode cX1_readsLevel 99 = .ok (.aload_n 0, 1) := by decide +kernel
theorem dX1_readsLevel_100 : decode cX1_readsLevel 100 = .ok (.getfield 70, 3) := by decide +kernel
theorem dX1_readsLevel_103 : decode cX1_readsLevel 103 = .ok (.istore 5, 2) := by decide +kernel
theorem dX1_readsLevel_105 : decode cX1_readsLevel 105 = .ok (.aload_n 0, 1) := by decide +kernel
theorem dX1_readsLevel_106 : decode cX1_readsLevel 106 = .ok (.invokevirtual 58, 3) := by decide +kernel
theorem dX1_readsLevel_109 : decode cX1_readsLevel 109 = .ok (.aload_n 0, 1) := by decide +kernel
theorem dX1_readsLevel_110 : decode cX1_readsLevel 110 = .ok (.iload_n 1, 1) := by decide +kernel
theorem dX1_readsLevel_111 : decode cX1_readsLevel 111 = .ok (.iconst 1, 1) := by decide +kernel
theorem dX1_readsLevel_112 : decode cX1_readsLevel 112 = .ok (.iadd, 1) := by decide +kernel
theorem dX1_readsLevel_113 : decode cX1_readsLevel 113 = .ok (.invokevirtual 67, 3) := by decide +kernel
theorem dX1_readsLevel_116 : decode cX1_readsLevel 116 = .ok (.istore_n 2, 1) := by decide +kernel
theorem dX1_readsLevel_117 : decode cX1_readsLevel 117 = .ok (.aload_n 0, 1) := by decide +kernel
theorem dX1_readsLevel_118 : decode cX1_readsLevel 118 = .ok (.iload 5, 2) := by decide +kernel
theorem dX1_readsLevel_120 : decode cX1_readsLevel 120 = .ok (.invokevirtual 83, 3) := by decide +kernel
theorem dX1_readsLevel_123 : decode cX1_readsLevel 123 = .ok (.iinc 4 1, 3) := by decide +kernel
theorem dX1_readsLevel_126 : decode cX1_readsLevel 126 = .ok (.goto (-48), 3) := by decide +kernel
theorem dX1_readsLevel_129 : decode cX1_readsLevel 129 = .ok (.iload_n 2, 1) := by decide +kernel
theorem dX1_readsLevel_130 : decode cX1_readsLevel 130 = .ok (.ireturn, 1) := by decide +kernel
theorem dX1_levelOf_0 : decode cX1_levelOf 0 = .ok (.iload_n 0, 1) := by decide +kernel
theorem dX1_levelOf_1 : decode cX1_levelOf 1 = .ok (.tableswitch 81 6 19 #[71, 73, 81, 81, 81, 81, 81, 81, 81, 77, 77, 79, 75, 75], 71) := by decide +kernel
theorem dX1_levelOf_72 : decode cX1_levelOf 72 = .ok (.iconst 0, 1) := by decide +kernel
theorem dX1_levelOf_73 : decode cX1_levelOf 73 = .ok (.ireturn, 1) := by decide +kernel
theorem dX1_levelOf_74 : decode cX1_levelOf 74 = .ok (.iconst 1, 1) := by decide +kernel
theorem dX1_levelOf_75 : decode cX1_levelOf 75 = .ok (.ireturn, 1) := by decide +kernel
theorem dX1_levelOf_76 : decode cX1_levelOf 76 = .ok (.iconst 2, 1) := by decide +kernel
theorem dX1_levelOf_77 : decode cX1_levelOf 77 = .ok (.ireturn, 1) := by decide +kernel
theorem dX1_levelOf_78 : decode cX1_levelOf 78 = .ok (.iconst 3, 1) := by decide +kernel
theorem dX1_levelOf_79 : decode cX1_levelOf 79 = .ok (.ireturn, 1) := by decide +kernel
theorem dX1_levelOf_80 : decode cX1_levelOf 80 = .ok (.iconst 4, 1) := by decide +kernel
theorem dX1_levelOf_81 : decode cX1_levelOf 81 = .ok (.ireturn, 1) := by decide +kernel
theorem dX1_levelOf_82 : decode cX1_levelOf 82 = .ok (.iconst (-1), 1) := by decide +kernel
theorem dX1_levelOf_83 : decode cX1_levelOf 83 = .ok (.ireturn, 1) := by decide +kernel
theorem dX1_readsOpened_0 : decode cX1_readsOpened 0 = .ok (.aload_n 0, 1) := by decide +kernel
theorem dX1_readsOpened_1 : decode cX1_readsOpened 1 = .ok (.getfield 70, 3) := by decide +kernel
theorem dX1_readsOpened_4 : decode cX1_readsOpened 4 = .ok (.istore_n 1, 1) := by decide +kernel
theorem dX1_readsOpened_5 : decode cX1_readsOpened 5 = .ok (.aload_n 0, 1) := by decide +kernel
theorem dX1_readsOpened_6 : decode cX1_readsOpened 6 = .ok (.getfield 55, 3) := by decide +kernel
theorem dX1_readsOpened_9 : decode cX1_readsOpened 9 = .ok (.iconst 5, 1) := by decide +kernel
theorem dX1_readsOpened_10 : decode cX1_readsOpened 10 = .ok (.if_icmp .lt 5, 3) := by decide +kernel
theorem dX1_readsOpened_13 : decode cX1_readsOpened 13 = .ok (.iconst 0, 1) := by decide +kernel
theorem dX1_readsOpened_14 : decode cX1_readsOpened 14 = .ok (.ireturn, 1) := by decide +kernel
theorem dX1_readsOpened_15 : decode cX1_readsOpened 15 = .ok (.aload_n 0, 1) := by decide +kernel
theorem dX1_readsOpened_16 : decode cX1_readsOpened 16 = .ok (.dup, 1) := by decide +kernel
theorem dX1_readsOpened_17 : decode cX1_readsOpened 17 = .ok (.getfield 55, 3) := by decide +kernel
theorem dX1_readsOpened_20 : decode cX1_readsOpened 20 = .ok (.iconst 1, 1) := by decide +kernel
theorem dX1_readsOpened_21 : decode cX1_readsOpened 21 = .ok (.iadd, 1) := by decide +kernel
theorem dX1_readsOpened_22 : decode cX1_readsOpened 22 = .ok (.putfield 55, 3) := by decide +kernel
theorem dX1_readsOpened_25 : decode cX1_readsOpened 25 = .ok (.aload_n 0, 1) := by decide +kernel
theorem dX1_readsOpened_26 : decode cX1_readsOpened 26 = .ok (.invokevirtual 58, 3) := by decide +kernel
theorem dX1_readsOpened_29 : decode cX1_readsOpened 29 = .ok (.iload_n 1, 1) := by decide +kernel
theorem dX1_readsOpened_30 : decode cX1_readsOpened 30 = .ok (.bipush 12, 2) := by decide +kernel
theorem dX1_readsOpened_32 : decode cX1_readsOpened 32 = .ok (.if_icmp .ne 29, 3) := by decide +kernel
theorem dX1_readsOpened_35 : decode cX1_readsOpened 35 = .ok (.aload_n 0, 1) := by decide +kernel
theorem dX1_readsOpened_36 : decode cX1_readsOpened 36 = .ok (.iconst 0, 1) := by decide +kernel
theorem dX1_readsOpened_37 : decode cX1_readsOpened 37 = .ok (.invokevirtual 67, 3) := by decide +kernel
theorem dX1_readsOpened_40 : decode cX1_readsOpened 40 = .ok (.ifCond .eq 16, 3) := by decide +kernel
theorem dX1_readsOpened_43 : decode cX1_readsOpened 43 = .ok (.aload_n 0, 1) := by decide +kernel
theorem dX1_readsOpened_44 : decode cX1_readsOpened 44 = .ok (.bipush 13, 2) := by decide +kernel
theorem dX1_readsOpened_46 : decode cX1_readsOpened 46 = .ok (.invokevirtual 63, 3) := by decide +kernel
theorem dX1_readsOpened_49 : decode cX1_readsOpened 49 = .ok (.ifCond .eq 7, 3) := by decide +kernel
theorem dX1_readsOpened_52 : decode cX1_readsOpened 52 = .ok (.iconst 1, 1) := by decide +kernel
theorem dX1_readsOpened_53 : decode cX1_readsOpened 53 = .ok (.goto 4, 3) := by decide +kernel
theorem dX1_readsOpened_56 : decode cX1_readsOpened 56 = .ok (.iconst 0, 1) := by decide +kernel
theorem dX1_readsOpened_57 : decode cX1_readsOpened 57 = .ok (.istore_n 2, 1) := by decide +kernel
theorem dX1_readsOpened_58 : decode cX1_readsOpened 58 = .ok (.goto 36, 3) := by decide +kernel
theorem dX1_readsOpened_61 : decode cX1_readsOpened 61 = .ok (.aload_n 0, 1) := by decide +kernel
theorem dX1_readsOpened_62 : decode cX1_readsOpened 62 = .ok (.iload_n 1, 1) := by decide +kernel
theorem dX1_readsOpened_63 : decode cX1_readsOpened 63 = .ok (.bipush 8, 2) := by decide +kernel
theorem dX1_readsOpened_65 : decode cX1_readsOpened 65 = .ok (.if_icmp .ne 7, 3) := by decide +kernel
theorem dX1_readsOpened_68 : decode cX1_readsOpened 68 = .ok (.iconst 2, 1) := by decide +kernel
theorem dX1_readsOpened_69 : decode cX1_readsOpened 69 = .ok (.goto 4, 3) := by decide +kernel
theorem dX1_readsOpened_72 : decode cX1_readsOpened 72 = .ok (.iconst 5, 1) := by decide +kernel
theorem dX1_readsOpened_73 : decode cX1_readsOpened 73 = .ok (.invokevirtual 67, 3) := by decide +kernel
theorem dX1_readsOpened_76 : decode cX1_readsOpened 76 = .ok (.istore_n 2, 1) := by decide +kernel
theorem dX1_readsOpened_77 : decode cX1_readsOpened 77 = .ok (.aload_n 0, 1) := by decide +kernel
theorem dX1_readsOpened_78 : decode cX1_readsOpened 78 = .ok (.iload_n 1, 1) := by decide +kernel
theorem dX1_readsOpened_79 : decode cX1_readsOpened 79 = .ok (.bipush 8, 2) := by decide +kernel
theorem dX1_readsOpened_81 : decode cX1_readsOpened 81 = .ok (.if_icmp .ne 8, 3) := by decide +kernel
theorem dX1_readsOpened_84 : decode cX1_readsOpened 84 = .ok (.bipush 8, 2) := by decide +kernel
theorem dX1_readsOpened_86 : decode cX1_readsOpened 86 = .ok (.goto 5, 3) := by decide +kernel
theorem dX1_readsOpened_89 : decode cX1_readsOpened 89 = .ok (.bipush 20, 2) := by decide +kernel
theorem dX1_readsOpened_91 : decode cX1_readsOpened 91 = .ok (.invokevirtual 83, 3) := by decide +kernel
theorem dX1_readsOpened_94 : decode cX1_readsOpened 94 = .ok (.aload_n 0, 1) := by decide +kernel
theorem dX1_readsOpened_95 : decode cX1_readsOpened 95 = .ok (.dup, 1) := by decide +kernel
theorem dX1_readsOpened_96 : decode cX1_readsOpened 96 = .ok (.getfield 55, 3) := by decide +kernel
theorem dX1_readsOpened_99 : decode cX1_readsOpened 99 = .ok (.iconst 1, 1) := by decide +kernel
theorem dX1_readsOpened_100 : decode cX1_readsOpened 100 = .ok (.isub, 1) := by decide +kernel
theorem dX1_readsOpened_101 : decode cX1_readsOpened 101 = .ok (.putfield 55, 3) := by decide +kernel
theorem dX1_readsOpened_104 : decode cX1_readsOpened 104 = .ok (.iload_n 2, 1) := by decide +kernel
theorem dX1_readsOpened_105 : decode cX1_readsOpened 105 = .ok (.ireturn, 1) := by decide +kernel
theorem dX1_readsPlain_0 : decode cX1_readsPlain 0 = .ok (.aload_n 0, 1) := by decide +kernel
theorem dX1_readsPlain_1 : decode cX1_readsPlain 1 = .ok (.getfield 70, 3) := by decide +kernel
theorem dX1_readsPlain_4 : decode cX1_readsPlain 4 = .ok (.bipush 6, 2) := by decide +kernel
theorem dX1_readsPlain_6 : decode cX1_readsPlain 6 = .ok (.if_icmp .lt 14, 3) := by decide +kernel
theorem dX1_readsPlain_9 : decode cX1_readsPlain 9 = .ok (.aload_n 0, 1) := by decide +kernel
theorem dX1_readsPlain_10 : decode cX1_readsPlain 10 = .ok (.getfield 70, 3) := by decide +kernel
theorem dX1_readsPlain_13 : decode cX1_readsPlain 13 = .ok (.bipush 32, 2) := by decide +kernel
theorem dX1_readsPlain_15 : decode cX1_readsPlain 15 = .ok (.if_icmp .ge 5, 3) := by decide +kernel
theorem dX1_readsPlain_18 : decode cX1_readsPlain 18 = .ok (.iconst 0, 1) := by decide +kernel
theorem dX1_readsPlain_19 : decode cX1_readsPlain 19 = .ok (.ireturn, 1) := by decide +kernel
theorem dX1_readsPlain_20 : decode cX1_readsPlain 20 = .ok (.aload_n 0, 1) := by decide +kernel
theorem dX1_readsPlain_21 : decode cX1_readsPlain 21 = .ok (.aload_n 0, 1) := by decide +kernel
theorem dX1_readsPlain_22 : decode cX1_readsPlain 22 = .ok (.getfield 70, 3) := by decide +kernel
theorem dX1_readsPlain_25 : decode cX1_readsPlain 25 = .ok (.invokevirtual 83, 3) := by decide +kernel
theorem dX1_readsPlain_28 : decode cX1_readsPlain 28 = .ok (.aload_n 0, 1) := by decide +kernel
theorem dX1_readsPlain_29 : decode cX1_readsPlain 29 = .ok (.invokevirtual 58, 3) := by decide +kernel
theorem dX1_readsPlain_32 : decode cX1_readsPlain 32 = .ok (.iconst 1, 1) := by decide +kernel
theorem dX1_readsPlain_33 : decode cX1_readsPlain 33 = .ok (.ireturn, 1) := by decide +kernel
theorem dX1_takes_0 : decode cX1_takes 0 = .ok (.aload_n 0, 1) := by decide +kernel
theorem dX1_takes_1 : decode cX1_takes 1 = .ok (.getfield 70, 3) := by decide +kernel
theorem dX1_takes_4 : decode cX1_takes 4 = .ok (.iload_n 1, 1) := by decide +kernel
theorem dX1_takes_5 : decode cX1_takes 5 = .ok (.if_icmp .eq 5, 3) := by decide +kernel
theorem dX1_takes_8 : decode cX1_takes 8 = .ok (.iconst 0, 1) := by decide +kernel
theorem dX1_takes_9 : decode cX1_takes 9 = .ok (.ireturn, 1) := by decide +kernel
theorem dX1_takes_10 : decode cX1_takes 10 = .ok (.aload_n 0, 1) := by decide +kernel
theorem dX1_takes_11 : decode cX1_takes 11 = .ok (.invokevirtual 58, 3) := by decide +kernel
theorem dX1_takes_14 : decode cX1_takes 14 = .ok (.iconst 1, 1) := by decide +kernel
theorem dX1_takes_15 : decode cX1_takes 15 = .ok (.ireturn, 1) := by decide +kernel
theorem dX1_write_0 : decode cX1_write 0 = .ok (.aload_n 0, 1) := by decide +kernel
theorem dX1_write_1 : decode cX1_write 1 = .ok (.getfield 46, 3) := by decide +kernel
theorem dX1_write_4 : decode cX1_write 4 = .ok (.sipush 160, 3) := by decide +kernel
theorem dX1_write_7 : decode cX1_write 7 = .ok (.if_icmp .ge 23, 3) := by decide +kernel
theorem dX1_write_10 : decode cX1_write 10 = .ok (.aload_n 0, 1) := by decide +kernel
theorem dX1_write_11 : decode cX1_write 11 = .ok (.getfield 15, 3) := by decide +kernel
theorem dX1_write_14 : decode cX1_write 14 = .ok (.aload_n 0, 1) := by decide +kernel
theorem dX1_write_15 : decode cX1_write 15 = .ok (.getfield 46, 3) := by decide +kernel
theorem dX1_write_18 : decode cX1_write 18 = .ok (.iload_n 1, 1) := by decide +kernel
theorem dX1_write_19 : decode cX1_write 19 = .ok (.iastore, 1) := by decide +kernel
theorem dX1_write_20 : decode cX1_write 20 = .ok (.aload_n 0, 1) := by decide +kernel
theorem dX1_write_21 : decode cX1_write 21 = .ok (.dup, 1) := by decide +kernel
theorem dX1_write_22 : decode cX1_write 22 = .ok (.getfield 46, 3) := by decide +kernel
theorem dX1_write_25 : decode cX1_write 25 = .ok (.iconst 1, 1) := by decide +kernel
theorem dX1_write_26 : decode cX1_write 26 = .ok (.iadd, 1) := by decide +kernel
theorem dX1_write_27 : decode cX1_write 27 = .ok (.putfield 46, 3) := by decide +kernel
theorem dX1_write_30 : decode cX1_write 30 = .ok (.return_, 1) := by decide +kernel
theorem dX1_step_0 : decode cX1_step 0 = .ok (.aload_n 0, 1) := by decide +kernel
theorem dX1_step_1 : decode cX1_step 1 = .ok (.getfield 52, 3) := by decide +kernel
theorem dX1_step_4 : decode cX1_step 4 = .ok (.aload_n 0, 1) := by decide +kernel
theorem dX1_step_5 : decode cX1_step 5 = .ok (.getfield 21, 3) := by decide +kernel
theorem dX1_step_8 : decode cX1_step 8 = .ok (.if_icmp .ge 44, 3) := by decide +kernel
theorem dX1_step_11 : decode cX1_step 11 = .ok (.aload_n 0, 1) := by decide +kernel
theorem dX1_step_12 : decode cX1_step 12 = .ok (.getfield 9, 3) := by decide +kernel
theorem dX1_step_15 : decode cX1_step 15 = .ok (.aload_n 0, 1) := by decide +kernel
theorem dX1_step_16 : decode cX1_step 16 = .ok (.getfield 52, 3) := by decide +kernel
theorem dX1_step_19 : decode cX1_step 19 = .ok (.iaload, 1) := by decide +kernel
theorem dX1_step_20 : decode cX1_step 20 = .ok (.bipush 32, 2) := by decide +kernel
theorem dX1_step_22 : decode cX1_step 22 = .ok (.if_icmp .eq 17, 3) := by decide +kernel
theorem dX1_step_25 : decode cX1_step 25 = .ok (.aload_n 0, 1) := by decide +kernel
theorem dX1_step_26 : decode cX1_step 26 = .ok (.getfield 9, 3) := by decide +kernel
theorem dX1_step_29 : decode cX1_step 29 = .ok (.aload_n 0, 1) := by decide +kernel
theorem dX1_step_30 : decode cX1_step 30 = .ok (.getfield 52, 3) := by decide +kernel
theorem dX1_step_33 : decode cX1_step 33 = .ok (.iaload, 1) := by decide +kernel
theorem dX1_step_34 : decode cX1_step 34 = .ok (.bipush 10, 2) := by decide +kernel
theorem dX1_step_36 : decode cX1_step 36 = .ok (.if_icmp .ne 16, 3) := by decide +kernel
theorem dX1_step_39 : decode cX1_step 39 = .ok (.aload_n 0, 1) := by decide +kernel
theorem dX1_step_40 : decode cX1_step 40 = .ok (.dup, 1) := by decide +kernel
theorem dX1_step_41 : decode cX1_step 41 = .ok (.getfield 52, 3) := by decide +kernel
theorem dX1_step_44 : decode cX1_step 44 = .ok (.iconst 1, 1) := by decide +kernel
theorem dX1_step_45 : decode cX1_step 45 = .ok (.iadd, 1) := by decide +kernel
theorem dX1_step_46 : decode cX1_step 46 = .ok (.putfield 52, 3) := by decide +kernel
theorem dX1_step_49 : decode cX1_step 49 = .ok (.goto (-49), 3) := by decide +kernel
theorem dX1_step_52 : decode cX1_step 52 = .ok (.aload_n 0, 1) := by decide +kernel
theorem dX1_step_53 : decode cX1_step 53 = .ok (.aload_n 0, 1) := by decide +kernel
theorem dX1_step_54 : decode cX1_step 54 = .ok (.getfield 52, 3) := by decide +kernel
theorem dX1_step_57 : decode cX1_step 57 = .ok (.putfield 41, 3) := by decide +kernel
theorem dX1_step_60 : decode cX1_step 60 = .ok (.aload_n 0, 1) := by decide +kernel
theorem dX1_step_61 : decode cX1_step 61 = .ok (.getfield 52, 3) := by decide +kernel
theorem dX1_step_64 : decode cX1_step 64 = .ok (.aload_n 0, 1) := by decide +kernel
theorem dX1_step_65 : decode cX1_step 65 = .ok (.getfield 21, 3) := by decide +kernel
theorem dX1_step_68 : decode cX1_step 68 = .ok (.if_icmp .lt 12, 3) := by decide +kernel
theorem dX1_step_71 : decode cX1_step 71 = .ok (.aload_n 0, 1) := by decide +kernel
theorem dX1_step_72 : decode cX1_step 72 = .ok (.bipush 21, 2) := by decide +kernel
theorem dX1_step_74 : decode cX1_step 74 = .ok (.putfield 70, 3) := by decide +kernel
theorem dX1_step_77 : decode cX1_step 77 = .ok (.goto 98, 3) := by decide +kernel
theorem dX1_step_80 : decode cX1_step 80 = .ok (.aload_n 0, 1) := by decide +kernel
theorem dX1_step_81 : decode cX1_step 81 = .ok (.getfield 9, 3) := by decide +kernel
theorem dX1_step_84 : decode cX1_step 84 = .ok (.aload_n 0, 1) := by decide +kernel
theorem dX1_step_85 : decode cX1_step 85 = .ok (.getfield 52, 3) := by decide +kernel
theorem dX1_step_88 : decode cX1_step 88 = .ok (.iaload, 1) := by decide +kernel
theorem dX1_step_89 : decode cX1_step 89 = .ok (.invokestatic 87, 3) := by decide +kernel
theorem dX1_step_92 : decode cX1_step 92 = .ok (.ifCond .eq 14, 3) := by decide +kernel
theorem dX1_step_95 : decode cX1_step 95 = .ok (.aload_n 0, 1) := by decide +kernel
theorem dX1_step_96 : decode cX1_step 96 = .ok (.aload_n 0, 1) := by decide +kernel
theorem dX1_step_97 : decode cX1_step 97 = .ok (.invokevirtual 90, 3) := by decide +kernel
theorem dX1_step_100 : decode cX1_step 100 = .ok (.putfield 70, 3) := by decide +kernel
theorem dX1_step_103 : decode cX1_step 103 = .ok (.goto 72, 3) := by decide +kernel
theorem dX1_step_106 : decode cX1_step 106 = .ok (.aload_n 0, 1) := by decide +kernel
theorem dX1_step_107 : decode cX1_step 107 = .ok (.getfield 9, 3) := by decide +kernel
theorem dX1_step_110 : decode cX1_step 110 = .ok (.aload_n 0, 1) := by decide +kernel
theorem dX1_step_111 : decode cX1_step 111 = .ok (.getfield 52, 3) := by decide +kernel
theorem dX1_step_114 : decode cX1_step 114 = .ok (.iaload, 1) := by decide +kernel
theorem dX1_step_115 : decode cX1_step 115 = .ok (.invokestatic 93, 3) := by decide +kernel
theorem dX1_step_118 : decode cX1_step 118 = .ok (.ifCond .eq 14, 3) := by decide +kernel
theorem dX1_step_121 : decode cX1_step 121 = .ok (.aload_n 0, 1) := by decide +kernel
theorem dX1_step_122 : decode cX1_step 122 = .ok (.aload_n 0, 1) := by decide +kernel
theorem dX1_step_123 : decode cX1_step 123 = .ok (.invokevirtual 96, 3) := by decide +kernel
theorem dX1_step_126 : decode cX1_step 126 = .ok (.putfield 70, 3) := by decide +kernel
theorem dX1_step_129 : decode cX1_step 129 = .ok (.goto 46, 3) := by decide +kernel
theorem dX1_step_132 : decode cX1_step 132 = .ok (.ldc 99, 2) := by decide +kernel
theorem dX1_step_134 : decode cX1_step 134 = .ok (.aload_n 0, 1) := by decide +kernel
theorem dX1_step_135 : decode cX1_step 135 = .ok (.getfield 9, 3) := by decide +kernel
theorem dX1_step_138 : decode cX1_step 138 = .ok (.aload_n 0, 1) := by decide +kernel
theorem dX1_step_139 : decode cX1_step 139 = .ok (.getfield 52, 3) := by decide +kernel
theorem dX1_step_142 : decode cX1_step 142 = .ok (.iaload, 1) := by decide +kernel
theorem dX1_step_143 : decode cX1_step 143 = .ok (.i2c, 1) := by decide +kernel
theorem dX1_step_144 : decode cX1_step 144 = .ok (.invokevirtual 101, 3) := by decide +kernel
theorem dX1_step_147 : decode cX1_step 147 = .ok (.istore_n 1, 1) := by decide +kernel
theorem dX1_step_148 : decode cX1_step 148 = .ok (.aload_n 0, 1) := by decide +kernel
theorem dX1_step_149 : decode cX1_step 149 = .ok (.iload_n 1, 1) := by decide +kernel
theorem dX1_step_150 : decode cX1_step 150 = .ok (.ifCond .ge 8, 3) := by decide +kernel
theorem dX1_step_153 : decode cX1_step 153 = .ok (.bipush 22, 2) := by decide +kernel
theorem dX1_step_155 : decode cX1_step 155 = .ok (.goto 7, 3) := by decide +kernel
theorem dX1_step_158 : decode cX1_step 158 = .ok (.bipush 12, 2) := by decide +kernel
theorem dX1_step_160 : decode cX1_step 160 = .ok (.iload_n 1, 1) := by decide +kernel
theorem dX1_step_161 : decode cX1_step 161 = .ok (.iadd, 1) := by decide +kernel
theorem dX1_step_162 : decode cX1_step 162 = .ok (.putfield 70, 3) := by decide +kernel
theorem dX1_step_165 : decode cX1_step 165 = .ok (.aload_n 0, 1) := by decide +kernel
theorem dX1_step_166 : decode cX1_step 166 = .ok (.dup, 1) := by decide +kernel
theorem dX1_step_167 : decode cX1_step 167 = .ok (.getfield 52, 3) := by decide +kernel
theorem dX1_step_170 : decode cX1_step 170 = .ok (.iconst 1, 1) := by decide +kernel
theorem dX1_step_171 : decode cX1_step 171 = .ok (.iadd, 1) := by decide +kernel
theorem dX1_step_172 : decode cX1_step 172 = .ok (.putfield 52, 3) := by decide +kernel
theorem dX1_step_175 : decode cX1_step 175 = .ok (.return_, 1) := by decide +kernel
theorem dX1_isLetter_0 : decode cX1_isLetter 0 = .ok (.iload_n 0, 1) := by decide +kernel
theorem dX1_isLetter_1 : decode cX1_isLetter 1 = .ok (.bipush 97, 2) := by decide +kernel
theorem dX1_isLetter_3 : decode cX1_isLetter 3 = .ok (.if_icmp .lt 13, 3) := by decide +kernel
theorem dX1_isLetter_6 : decode cX1_isLetter 6 = .ok (.iload_n 0, 1) := by decide +kernel
theorem dX1_isLetter_7 : decode cX1_isLetter 7 = .ok (.bipush 122, 2) := by decide +kernel
theorem dX1_isLetter_9 : decode cX1_isLetter 9 = .ok (.if_icmp .gt 7, 3) := by decide +kernel
theorem dX1_isLetter_12 : decode cX1_isLetter 12 = .ok (.iconst 1, 1) := by decide +kernel
theorem dX1_isLetter_13 : decode cX1_isLetter 13 = .ok (.goto 4, 3) := by decide +kernel
theorem dX1_isLetter_16 : decode cX1_isLetter 16 = .ok (.iconst 0, 1) := by decide +kernel
theorem dX1_isLetter_17 : decode cX1_isLetter 17 = .ok (.ireturn, 1) := by decide +kernel
theorem dX1_isDigit_0 : decode cX1_isDigit 0 = .ok (.iload_n 0, 1) := by decide +kernel
theorem dX1_isDigit_1 : decode cX1_isDigit 1 = .ok (.bipush 48, 2) := by decide +kernel
theorem dX1_isDigit_3 : decode cX1_isDigit 3 = .ok (.if_icmp .lt 13, 3) := by decide +kernel
theorem dX1_isDigit_6 : decode cX1_isDigit 6 = .ok (.iload_n 0, 1) := by decide +kernel
theorem dX1_isDigit_7 : decode cX1_isDigit 7 = .ok (.bipush 57, 2) := by decide +kernel
theorem dX1_isDigit_9 : decode cX1_isDigit 9 = .ok (.if_icmp .gt 7, 3) := by decide +kernel
theorem dX1_isDigit_12 : decode cX1_isDigit 12 = .ok (.iconst 1, 1) := by decide +kernel
theorem dX1_isDigit_13 : decode cX1_isDigit 13 = .ok (.goto 4, 3) := by decide +kernel
theorem dX1_isDigit_16 : decode cX1_isDigit 16 = .ok (.iconst 0, 1) := by decide +kernel
theorem dX1_isDigit_17 : decode cX1_isDigit 17 = .ok (.ireturn, 1) := by decide +kernel
theorem dX1_numeral_0 : decode cX1_numeral 0 = .ok (.iconst 0, 1) := by decide +kernel
theorem dX1_numeral_1 : decode cX1_numeral 1 = .ok (.istore_n 1, 1) := by decide +kernel
theorem dX1_numeral_2 : decode cX1_numeral 2 = .ok (.aload_n 0, 1) := by decide +kernel
theorem dX1_numeral_3 : decode cX1_numeral 3 = .ok (.getfield 52, 3) := by decide +kernel
theorem dX1_numeral_6 : decode cX1_numeral 6 = .ok (.aload_n 0, 1) := by decide +kernel
theorem dX1_numeral_7 : decode cX1_numeral 7 = .ok (.getfield 21, 3) := by decide +kernel
theorem dX1_numeral_10 : decode cX1_numeral 10 = .ok (.if_icmp .ge 66, 3) := by decide +kernel
theorem dX1_numeral_13 : decode cX1_numeral 13 = .ok (.aload_n 0, 1) := by decide +kernel
theorem dX1_numeral_14 : decode cX1_numeral 14 = .ok (.getfield 9, 3) := by decide +kernel
theorem dX1_numeral_17 : decode cX1_numeral 17 = .ok (.aload_n 0, 1) := by decide +kernel
theorem dX1_numeral_18 : decode cX1_numeral 18 = .ok (.getfield 52, 3) := by decide +kernel
theorem dX1_numeral_21 : decode cX1_numeral 21 = .ok (.iaload, 1) := by decide +kernel
theorem dX1_numeral_22 : decode cX1_numeral 22 = .ok (.invokestatic 93, 3) := by decide +kernel
theorem dX1_numeral_25 : decode cX1_numeral 25 = .ok (.ifCond .eq 51, 3) := by decide +kernel
theorem dX1_numeral_28 : decode cX1_numeral 28 = .ok (.aload_n 0, 1) := by decide +kernel
theorem dX1_numeral_29 : decode cX1_numeral 29 = .ok (.getfield 52, 3) := by decide +kernel
theorem dX1_numeral_32 : decode cX1_numeral 32 = .ok (.aload_n 0, 1) := by decide +kernel
theorem dX1_numeral_33 : decode cX1_numeral 33 = .ok (.getfield 41, 3) := by decide +kernel
theorem dX1_numeral_36 : decode cX1_numeral 36 = .ok (.isub, 1) := by decide +kernel
theorem dX1_numeral_37 : decode cX1_numeral 37 = .ok (.iconst 4, 1) := by decide +kernel
theorem dX1_numeral_38 : decode cX1_numeral 38 = .ok (.if_icmp .ge 23, 3) := by decide +kernel
theorem dX1_numeral_41 : decode cX1_numeral 41 = .ok (.bipush 10, 2) := by decide +kernel
theorem dX1_numeral_43 : decode cX1_numeral 43 = .ok (.iload_n 1, 1) := by decide +kernel
theorem dX1_numeral_44 : decode cX1_numeral 44 = .ok (.imul, 1) := by decide +kernel
theorem dX1_numeral_45 : decode cX1_numeral 45 = .ok (.aload_n 0, 1) := by decide +kernel
theorem dX1_numeral_46 : decode cX1_numeral 46 = .ok (.getfield 9, 3) := by decide +kernel
theorem dX1_numeral_49 : decode cX1_numeral 49 = .ok (.aload_n 0, 1) := by decide +kernel
theorem dX1_numeral_50 : decode cX1_numeral 50 = .ok (.getfield 52, 3) := by decide +kernel
theorem dX1_numeral_53 : decode cX1_numeral 53 = .ok (.iaload, 1) := by decide +kernel
theorem dX1_numeral_54 : decode cX1_numeral 54 = .ok (.iadd, 1) := by decide +kernel
theorem dX1_numeral_55 : decode cX1_numeral 55 = .ok (.bipush 48, 2) := by decide +kernel
theorem dX1_numeral_57 : decode cX1_numeral 57 = .ok (.isub, 1) := by decide +kernel
theorem dX1_numeral_58 : decode cX1_numeral 58 = .ok (.goto 4, 3) := by decide +kernel
theorem dX1_numeral_61 : decode cX1_numeral 61 = .ok (.iload_n 1, 1) := by decide +kernel
theorem dX1_numeral_62 : decode cX1_numeral 62 = .ok (.istore_n 1, 1) := by decide +kernel
theorem dX1_numeral_63 : decode cX1_numeral 63 = .ok (.aload_n 0, 1) := by decide +kernel
theorem dX1_numeral_64 : decode cX1_numeral 64 = .ok (.dup, 1) := by decide +kernel
theorem dX1_numeral_65 : decode cX1_numeral 65 = .ok (.getfield 52, 3) := by decide +kernel
theorem dX1_numeral_68 : decode cX1_numeral 68 = .ok (.iconst 1, 1) := by decide +kernel
theorem dX1_numeral_69 : decode cX1_numeral 69 = .ok (.iadd, 1) := by decide +kernel
theorem dX1_numeral_70 : decode cX1_numeral 70 = .ok (.putfield 52, 3) := by decide +kernel
theorem dX1_numeral_73 : decode cX1_numeral 73 = .ok (.goto (-71), 3) := by decide +kernel
theorem dX1_numeral_76 : decode cX1_numeral 76 = .ok (.aload_n 0, 1) := by decide +kernel
theorem dX1_numeral_77 : decode cX1_numeral 77 = .ok (.getfield 52, 3) := by decide +kernel
theorem dX1_numeral_80 : decode cX1_numeral 80 = .ok (.aload_n 0, 1) := by decide +kernel
theorem dX1_numeral_81 : decode cX1_numeral 81 = .ok (.getfield 41, 3) := by decide +kernel
theorem dX1_numeral_84 : decode cX1_numeral 84 = .ok (.isub, 1) := by decide +kernel
theorem dX1_numeral_85 : decode cX1_numeral 85 = .ok (.iconst 4, 1) := by decide +kernel
theorem dX1_numeral_86 : decode cX1_numeral 86 = .ok (.if_icmp .le 8, 3) := by decide +kernel
theorem dX1_numeral_89 : decode cX1_numeral 89 = .ok (.bipush 22, 2) := by decide +kernel
theorem dX1_numeral_91 : decode cX1_numeral 91 = .ok (.goto 7, 3) := by decide +kernel
theorem dX1_numeral_94 : decode cX1_numeral 94 = .ok (.bipush 32, 2) := by decide +kernel
theorem dX1_numeral_96 : decode cX1_numeral 96 = .ok (.iload_n 1, 1) := by decide +kernel
theorem dX1_numeral_97 : decode cX1_numeral 97 = .ok (.iadd, 1) := by decide +kernel
theorem dX1_numeral_98 : decode cX1_numeral 98 = .ok (.ireturn, 1) := by decide +kernel
theorem dX1_word_0 : decode cX1_word 0 = .ok (.aload_n 0, 1) := by decide +kernel
theorem dX1_word_1 : decode cX1_word 1 = .ok (.getfield 52, 3) := by decide +kernel
theorem dX1_word_4 : decode cX1_word 4 = .ok (.aload_n 0, 1) := by decide +kernel
theorem dX1_word_5 : decode cX1_word 5 = .ok (.getfield 21, 3) := by decide +kernel
theorem dX1_word_8 : decode cX1_word 8 = .ok (.if_icmp .ge 31, 3) := by decide +kernel
theorem dX1_word_11 : decode cX1_word 11 = .ok (.aload_n 0, 1) := by decide +kernel
theorem dX1_word_12 : decode cX1_word 12 = .ok (.getfield 9, 3) := by decide +kernel
theorem dX1_word_15 : decode cX1_word 15 = .ok (.aload_n 0, 1) := by decide +kernel
theorem dX1_word_16 : decode cX1_word 16 = .ok (.getfield 52, 3) := by decide +kernel
theorem dX1_word_19 : decode cX1_word 19 = .ok (.iaload, 1) := by decide +kernel
theorem dX1_word_20 : decode cX1_word 20 = .ok (.invokestatic 87, 3) := by decide +kernel
theorem dX1_word_23 : decode cX1_word 23 = .ok (.ifCond .eq 16, 3) := by decide +kernel
theorem dX1_word_26 : decode cX1_word 26 = .ok (.aload_n 0, 1) := by decide +kernel
theorem dX1_word_27 : decode cX1_word 27 = .ok (.dup, 1) := by decide +kernel
theorem dX1_word_28 : decode cX1_word 28 = .ok (.getfield 52, 3) := by decide +kernel
theorem dX1_word_31 : decode cX1_word 31 = .ok (.iconst 1, 1) := by decide +kernel
theorem dX1_word_32 : decode cX1_word 32 = .ok (.iadd, 1) := by decide +kernel
theorem dX1_word_33 : decode cX1_word 33 = .ok (.putfield 52, 3) := by decide +kernel
theorem dX1_word_36 : decode cX1_word 36 = .ok (.goto (-36), 3) := by decide +kernel
theorem dX1_word_39 : decode cX1_word 39 = .ok (.iconst 0, 1) := by decide +kernel
theorem dX1_word_40 : decode cX1_word 40 = .ok (.istore_n 1, 1) := by decide +kernel
theorem dX1_word_41 : decode cX1_word 41 = .ok (.iconst 0, 1) := by decide +kernel
theorem dX1_word_42 : decode cX1_word 42 = .ok (.istore_n 2, 1) := by decide +kernel
theorem dX1_word_43 : decode cX1_word 43 = .ok (.iconst 0, 1) := by decide +kernel
theorem dX1_word_44 : decode cX1_word 44 = .ok (.istore_n 3, 1) := by decide +kernel
theorem dX1_word_45 : decode cX1_word 45 = .ok (.iload_n 3, 1) := by decide +kernel
theorem dX1_word_46 : decode cX1_word 46 = .ok (.ldc 104, 2) := by decide +kernel
theorem dX1_word_48 : decode cX1_word 48 = .ok (.invokevirtual 27, 3) := by decide +kernel
theorem dX1_word_51 : decode cX1_word 51 = .ok (.if_icmp .ge 89, 3) := by decide +kernel
theorem dX1_word_54 : decode cX1_word 54 = .ok (.ldc 104, 2) := by decide +kernel
theorem dX1_word_56 : decode cX1_word 56 = .ok (.iload_n 3, 1) := by decide +kernel
theorem dX1_word_57 : decode cX1_word 57 = .ok (.invokevirtual 33, 3) := by decide +kernel
theorem dX1_word_60 : decode cX1_word 60 = .ok (.istore 4, 2) := by decide +kernel
theorem dX1_word_62 : decode cX1_word 62 = .ok (.iload 4, 2) := by decide +kernel
theorem dX1_word_64 : decode cX1_word 64 = .ok (.bipush 32, 2) := by decide +kernel
theorem dX1_word_66 : decode cX1_word 66 = .ok (.if_icmp .ne 26, 3) := by decide +kernel
theorem dX1_word_69 : decode cX1_word 69 = .ok (.iload_n 2, 1) := by decide +kernel
theorem dX1_word_70 : decode cX1_word 70 = .ok (.aload_n 0, 1) := by decide +kernel
theorem dX1_word_71 : decode cX1_word 71 = .ok (.getfield 52, 3) := by decide +kernel
theorem dX1_word_74 : decode cX1_word 74 = .ok (.aload_n 0, 1) := by decide +kernel
theorem dX1_word_75 : decode cX1_word 75 = .ok (.getfield 41, 3) := by decide +kernel
theorem dX1_word_78 : decode cX1_word 78 = .ok (.isub, 1) := by decide +kernel
theorem dX1_word_79 : decode cX1_word 79 = .ok (.if_icmp .ne 5, 3) := by decide +kernel
theorem dX1_word_82 : decode cX1_word 82 = .ok (.iload_n 1, 1) := by decide +kernel
theorem dX1_word_83 : decode cX1_word 83 = .ok (.ireturn, 1) := by decide +kernel
theorem dX1_word_84 : decode cX1_word 84 = .ok (.iinc 1 1, 3) := by decide +kernel
theorem dX1_word_87 : decode cX1_word 87 = .ok (.iconst 0, 1) := by decide +kernel
theorem dX1_word_88 : decode cX1_word 88 = .ok (.istore_n 2, 1) := by decide +kernel
theorem dX1_word_89 : decode cX1_word 89 = .ok (.goto 45, 3) := by decide +kernel
theorem dX1_word_92 : decode cX1_word 92 = .ok (.iload_n 2, 1) := by decide +kernel
theorem dX1_word_93 : decode cX1_word 93 = .ok (.iconst (-1), 1) := by decide +kernel
theorem dX1_word_94 : decode cX1_word 94 = .ok (.if_icmp .eq 40, 3) := by decide +kernel
theorem dX1_word_97 : decode cX1_word 97 = .ok (.iload_n 2, 1) := by decide +kernel
theorem dX1_word_98 : decode cX1_word 98 = .ok (.aload_n 0, 1) := by decide +kernel
theorem dX1_word_99 : decode cX1_word 99 = .ok (.getfield 52, 3) := by decide +kernel
theorem dX1_word_102 : decode cX1_word 102 = .ok (.aload_n 0, 1) := by decide +kernel
theorem dX1_word_103 : decode cX1_word 103 = .ok (.getfield 41, 3) := by decide +kernel
theorem dX1_word_106 : decode cX1_word 106 = .ok (.isub, 1) := by decide +kernel
theorem dX1_word_107 : decode cX1_word 107 = .ok (.if_icmp .ge 25, 3) := by decide +kernel
theorem dX1_word_110 : decode cX1_word 110 = .ok (.aload_n 0, 1) := by decide +kernel
theorem dX1_word_111 : decode cX1_word 111 = .ok (.getfield 9, 3) := by decide +kernel
theorem dX1_word_114 : decode cX1_word 114 = .ok (.aload_n 0, 1) := by decide +kernel
theorem dX1_word_115 : decode cX1_word 115 = .ok (.getfield 41, 3) := by decide +kernel
theorem dX1_word_118 : decode cX1_word 118 = .ok (.iload_n 2, 1) := by decide +kernel
theorem dX1_word_119 : decode cX1_word 119 = .ok (.iadd, 1) := by decide +kernel
theorem dX1_word_120 : decode cX1_word 120 = .ok (.iaload, 1) := by decide +kernel
theorem dX1_word_121 : decode cX1_word 121 = .ok (.iload 4, 2) := by decide +kernel
theorem dX1_word_123 : decode cX1_word 123 = .ok (.if_icmp .ne 9, 3) := by decide +kernel
theorem dX1_word_126 : decode cX1_word 126 = .ok (.iload_n 2, 1) := by decide +kernel
theorem dX1_word_127 : decode cX1_word 127 = .ok (.iconst 1, 1) := by decide +kernel
theorem dX1_word_128 : decode cX1_word 128 = .ok (.iadd, 1) := by decide +kernel
theorem dX1_word_129 : decode cX1_word 129 = .ok (.goto 4, 3) := by decide +kernel
theorem dX1_word_132 : decode cX1_word 132 = .ok (.iconst (-1), 1) := by decide +kernel
theorem dX1_word_133 : decode cX1_word 133 = .ok (.istore_n 2, 1) := by decide +kernel
theorem dX1_word_134 : decode cX1_word 134 = .ok (.iinc 3 1, 3) := by decide +kernel
theorem dX1_word_137 : decode cX1_word 137 = .ok (.goto (-92), 3) := by decide +kernel
theorem dX1_word_140 : decode cX1_word 140 = .ok (.bipush 22, 2) := by decide +kernel
theorem dX1_word_142 : decode cX1_word 142 = .ok (.ireturn, 1) := by decide +kernel
theorem dX4_init_0 : decode cX4_init 0 = .ok (.aload_n 0, 1) := by decide +kernel
theorem dX4_init_1 : decode cX4_init 1 = .ok (.invokespecial 3, 3) := by decide +kernel
theorem dX4_init_4 : decode cX4_init 4 = .ok (.aload_n 0, 1) := by decide +kernel
theorem dX4_init_5 : decode cX4_init 5 = .ok (.iconst 4, 1) := by decide +kernel
theorem dX4_init_6 : decode cX4_init 6 = .ok (.newarray .int, 2) := by decide +kernel
theorem dX4_init_8 : decode cX4_init 8 = .ok (.putfield 11, 3) := by decide +kernel
theorem dX4_init_11 : decode cX4_init 11 = .ok (.aload_n 0, 1) := by decide +kernel
theorem dX4_init_12 : decode cX4_init 12 = .ok (.iconst 4, 1) := by decide +kernel
theorem dX4_init_13 : decode cX4_init 13 = .ok (.newarray .int, 2) := by decide +kernel
theorem dX4_init_15 : decode cX4_init 15 = .ok (.putfield 15, 3) := by decide +kernel
theorem dX4_init_18 : decode cX4_init 18 = .ok (.aload_n 0, 1) := by decide +kernel
theorem dX4_init_19 : decode cX4_init 19 = .ok (.sipush 160, 3) := by decide +kernel
theorem dX4_init_22 : decode cX4_init 22 = .ok (.newarray .int, 2) := by decide +kernel
theorem dX4_init_24 : decode cX4_init 24 = .ok (.putfield 18, 3) := by decide +kernel
theorem dX4_init_27 : decode cX4_init 27 = .ok (.iconst 0, 1) := by decide +kernel
theorem dX4_init_28 : decode cX4_init 28 = .ok (.istore_n 1, 1) := by decide +kernel
theorem dX4_init_29 : decode cX4_init 29 = .ok (.iload_n 1, 1) := by decide +kernel
theorem dX4_init_30 : decode cX4_init 30 = .ok (.iconst 4, 1) := by decide +kernel
theorem dX4_init_31 : decode cX4_init 31 = .ok (.if_icmp .ge 16, 3) := by decide +kernel
theorem dX4_init_34 : decode cX4_init 34 = .ok (.aload_n 0, 1) := by decide +kernel
theorem dX4_init_35 : decode cX4_init 35 = .ok (.getfield 11, 3) := by decide +kernel
theorem dX4_init_38 : decode cX4_init 38 = .ok (.iload_n 1, 1) := by decide +kernel
theorem dX4_init_39 : decode cX4_init 39 = .ok (.iconst (-1), 1) := by decide +kernel
theorem dX4_init_40 : decode cX4_init 40 = .ok (.iastore, 1) := by decide +kernel
theorem dX4_init_41 : decode cX4_init 41 = .ok (.iinc 1 1, 3) := by decide +kernel
theorem dX4_init_44 : decode cX4_init 44 = .ok (.goto (-15), 3) := by decide +kernel
theorem dX4_init_47 : decode cX4_init 47 = .ok (.return_, 1) := by decide +kernel
theorem dX4_has_0 : decode cX4_has 0 = .ok (.iload_n 1, 1) := by decide +kernel
theorem dX4_has_1 : decode cX4_has 1 = .ok (.iconst 4, 1) := by decide +kernel
theorem dX4_has_2 : decode cX4_has 2 = .ok (.invokestatic 21, 3) := by decide +kernel
theorem dX4_has_5 : decode cX4_has 5 = .ok (.ireturn, 1) := by decide +kernel
theorem dX4_isMissing_0 : decode cX4_isMissing 0 = .ok (.aload_n 0, 1) := by decide +kernel
theorem dX4_isMissing_1 : decode cX4_isMissing 1 = .ok (.getfield 11, 3) := by decide +kernel
theorem dX4_isMissing_4 : decode cX4_isMissing 4 = .ok (.iload_n 1, 1) := by decide +kernel
theorem dX4_isMissing_5 : decode cX4_isMissing 5 = .ok (.iaload, 1) := by decide +kernel
theorem dX4_isMissing_6 : decode cX4_isMissing 6 = .ok (.iconst (-1), 1) := by decide +kernel
theorem dX4_isMissing_7 : decode cX4_isMissing 7 = .ok (.if_icmp .ne 7, 3) := by decide +kernel
theorem dX4_isMissing_10 : decode cX4_isMissing 10 = .ok (.iconst 1, 1) := by decide +kernel
theorem dX4_isMissing_11 : decode cX4_isMissing 11 = .ok (.goto 4, 3) := by decide +kernel
theorem dX4_isMissing_14 : decode cX4_isMissing 14 = .ok (.iconst 0, 1) := by decide +kernel
theorem dX4_isMissing_15 : decode cX4_isMissing 15 = .ok (.ireturn, 1) := by decide +kernel
theorem dX4_reaches_0 : decode cX4_reaches 0 = .ok (.iload_n 2, 1) := by decide +kernel
theorem dX4_reaches_1 : decode cX4_reaches 1 = .ok (.aload_n 0, 1) := by decide +kernel
theorem dX4_reaches_2 : decode cX4_reaches 2 = .ok (.getfield 15, 3) := by decide +kernel
theorem dX4_reaches_5 : decode cX4_reaches 5 = .ok (.iload_n 1, 1) := by decide +kernel
theorem dX4_reaches_6 : decode cX4_reaches 6 = .ok (.iaload, 1) := by decide +kernel
theorem dX4_reaches_7 : decode cX4_reaches 7 = .ok (.invokestatic 21, 3) := by decide +kernel
theorem dX4_reaches_10 : decode cX4_reaches 10 = .ok (.ireturn, 1) := by decide +kernel
theorem dX4_hasRun_0 : decode cX4_hasRun 0 = .ok (.iload_n 3, 1) := by decide +kernel
theorem dX4_hasRun_1 : decode cX4_hasRun 1 = .ok (.ifCond .lt 33, 3) := by decide +kernel
theorem dX4_hasRun_4 : decode cX4_hasRun 4 = .ok (.iload_n 3, 1) := by decide +kernel
theorem dX4_hasRun_5 : decode cX4_hasRun 5 = .ok (.aload_n 0, 1) := by decide +kernel
theorem dX4_hasRun_6 : decode cX4_hasRun 6 = .ok (.getfield 15, 3) := by decide +kernel
theorem dX4_hasRun_9 : decode cX4_hasRun 9 = .ok (.iload_n 1, 1) := by decide +kernel
theorem dX4_hasRun_10 : decode cX4_hasRun 10 = .ok (.iaload, 1) := by decide +kernel
theorem dX4_hasRun_11 : decode cX4_hasRun 11 = .ok (.if_icmp .gt 23, 3) := by decide +kernel
theorem dX4_hasRun_14 : decode cX4_hasRun 14 = .ok (.iload_n 2, 1) := by decide +kernel
theorem dX4_hasRun_15 : decode cX4_hasRun 15 = .ok (.ifCond .lt 19, 3) := by decide +kernel
theorem dX4_hasRun_18 : decode cX4_hasRun 18 = .ok (.iload_n 2, 1) := by decide +kernel
theorem dX4_hasRun_19 : decode cX4_hasRun 19 = .ok (.aload_n 0, 1) := by decide +kernel
theorem dX4_hasRun_20 : decode cX4_hasRun 20 = .ok (.getfield 15, 3) := by decide +kernel
theorem dX4_hasRun_23 : decode cX4_hasRun 23 = .ok (.iload_n 1, 1) := by decide +kernel
theorem dX4_hasRun_24 : decode cX4_hasRun 24 = .ok (.iaload, 1) := by decide +kernel
theorem dX4_hasRun_25 : decode cX4_hasRun 25 = .ok (.iload_n 3, 1) := by decide +kernel
theorem dX4_hasRun_26 : decode cX4_hasRun 26 = .ok (.isub, 1) := by decide +kernel
theorem dX4_hasRun_27 : decode cX4_hasRun 27 = .ok (.if_icmp .gt 7, 3) := by decide +kernel
theorem dX4_hasRun_30 : decode cX4_hasRun 30 = .ok (.iconst 1, 1) := by decide +kernel
theorem dX4_hasRun_31 : decode cX4_hasRun 31 = .ok (.goto 4, 3) := by decide +kernel
theorem dX4_hasRun_34 : decode cX4_hasRun 34 = .ok (.iconst 0, 1) := by decide +kernel
theorem dX4_hasRun_35 : decode cX4_hasRun 35 = .ok (.ireturn, 1) := by decide +kernel
theorem dX4_lay_0 : decode cX4_lay 0 = .ok (.aload_n 0, 1) := by decide +kernel
theorem dX4_lay_1 : decode cX4_lay 1 = .ok (.getfield 11, 3) := by decide +kernel
theorem dX4_lay_4 : decode cX4_lay 4 = .ok (.iload_n 1, 1) := by decide +kernel
theorem dX4_lay_5 : decode cX4_lay 5 = .ok (.iload_n 2, 1) := by decide +kernel
theorem dX4_lay_6 : decode cX4_lay 6 = .ok (.iastore, 1) := by decide +kernel
theorem dX4_lay_7 : decode cX4_lay 7 = .ok (.aload_n 0, 1) := by decide +kernel
theorem dX4_lay_8 : decode cX4_lay 8 = .ok (.getfield 15, 3) := by decide +kernel
theorem dX4_lay_11 : decode cX4_lay 11 = .ok (.iload_n 1, 1) := by decide +kernel
theorem dX4_lay_12 : decode cX4_lay 12 = .ok (.iload_n 3, 1) := by decide +kernel
theorem dX4_lay_13 : decode cX4_lay 13 = .ok (.iastore, 1) := by decide +kernel
theorem dX4_lay_14 : decode cX4_lay 14 = .ok (.iconst 0, 1) := by decide +kernel
theorem dX4_lay_15 : decode cX4_lay 15 = .ok (.istore 4, 2) := by decide +kernel
theorem dX4_lay_17 : decode cX4_lay 17 = .ok (.iload 4, 2) := by decide +kernel
theorem dX4_lay_19 : decode cX4_lay 19 = .ok (.bipush 40, 2) := by decide +kernel
theorem dX4_lay_21 : decode cX4_lay 21 = .ok (.if_icmp .ge 22, 3) := by decide +kernel
theorem dX4_lay_24 : decode cX4_lay 24 = .ok (.aload_n 0, 1) := by decide +kernel
theorem dX4_lay_25 : decode cX4_lay 25 = .ok (.getfield 18, 3) := by decide +kernel
theorem dX4_lay_28 : decode cX4_lay 28 = .ok (.iload_n 1, 1) := by decide +kernel
theorem dX4_lay_29 : decode cX4_lay 29 = .ok (.bipush 40, 2) := by decide +kernel
theorem dX4_lay_31 : decode cX4_lay 31 = .ok (.imul, 1) := by decide +kernel
theorem dX4_lay_32 : decode cX4_lay 32 = .ok (.iload 4, 2) := by decide +kernel
theorem dX4_lay_34 : decode cX4_lay 34 = .ok (.iadd, 1) := by decide +kernel
theorem dX4_lay_35 : decode cX4_lay 35 = .ok (.iconst 0, 1) := by decide +kernel
theorem dX4_lay_36 : decode cX4_lay 36 = .ok (.iastore, 1) := by decide +kernel
theorem dX4_lay_37 : decode cX4_lay 37 = .ok (.iinc 4 1, 3) := by decide +kernel
theorem dX4_lay_40 : decode cX4_lay 40 = .ok (.goto (-23), 3) := by decide +kernel
theorem dX4_lay_43 : decode cX4_lay 43 = .ok (.return_, 1) := by decide +kernel
theorem dX4_at_0 : decode cX4_at 0 = .ok (.aload_n 0, 1) := by decide +kernel
theorem dX4_at_1 : decode cX4_at 1 = .ok (.getfield 18, 3) := by decide +kernel
theorem dX4_at_4 : decode cX4_at 4 = .ok (.iload_n 1, 1) := by decide +kernel
theorem dX4_at_5 : decode cX4_at 5 = .ok (.bipush 40, 2) := by decide +kernel
theorem dX4_at_7 : decode cX4_at 7 = .ok (.imul, 1) := by decide +kernel
theorem dX4_at_8 : decode cX4_at 8 = .ok (.iload_n 2, 1) := by decide +kernel
theorem dX4_at_9 : decode cX4_at 9 = .ok (.iadd, 1) := by decide +kernel
theorem dX4_at_10 : decode cX4_at 10 = .ok (.iaload, 1) := by decide +kernel
theorem dX4_at_11 : decode cX4_at 11 = .ok (.ireturn, 1) := by decide +kernel
theorem dX4_write_0 : decode cX4_write 0 = .ok (.aload_n 0, 1) := by decide +kernel
theorem dX4_write_1 : decode cX4_write 1 = .ok (.getfield 11, 3) := by decide +kernel
theorem dX4_write_4 : decode cX4_write 4 = .ok (.iload_n 1, 1) := by decide +kernel
theorem dX4_write_5 : decode cX4_write 5 = .ok (.iaload, 1) := by decide +kernel
theorem dX4_write_6 : decode cX4_write 6 = .ok (.ifCond .ne 8, 3) := by decide +kernel
theorem dX4_write_9 : decode cX4_write 9 = .ok (.iload_n 3, 1) := by decide +kernel
theorem dX4_write_10 : decode cX4_write 10 = .ok (.i2b, 1) := by decide +kernel
theorem dX4_write_11 : decode cX4_write 11 = .ok (.goto 19, 3) := by decide +kernel
theorem dX4_write_14 : decode cX4_write 14 = .ok (.aload_n 0, 1) := by decide +kernel
theorem dX4_write_15 : decode cX4_write 15 = .ok (.getfield 11, 3) := by decide +kernel
theorem dX4_write_18 : decode cX4_write 18 = .ok (.iload_n 1, 1) := by decide +kernel
theorem dX4_write_19 : decode cX4_write 19 = .ok (.iaload, 1) := by decide +kernel
theorem dX4_write_20 : decode cX4_write 20 = .ok (.iconst 1, 1) := by decide +kernel
theorem dX4_write_21 : decode cX4_write 21 = .ok (.if_icmp .ne 8, 3) := by decide +kernel
theorem dX4_write_24 : decode cX4_write 24 = .ok (.iload_n 3, 1) := by decide +kernel
theorem dX4_write_25 : decode cX4_write 25 = .ok (.i2s, 1) := by decide +kernel
theorem dX4_write_26 : decode cX4_write 26 = .ok (.goto 4, 3) := by decide +kernel
theorem dX4_write_29 : decode cX4_write 29 = .ok (.iload_n 3, 1) := by decide +kernel
theorem dX4_write_30 : decode cX4_write 30 = .ok (.istore 4, 2) := by decide +kernel
theorem dX4_write_32 : decode cX4_write 32 = .ok (.aload_n 0, 1) := by decide +kernel
theorem dX4_write_33 : decode cX4_write 33 = .ok (.getfield 18, 3) := by decide +kernel
theorem dX4_write_36 : decode cX4_write 36 = .ok (.iload_n 1, 1) := by decide +kernel
theorem dX4_write_37 : decode cX4_write 37 = .ok (.bipush 40, 2) := by decide +kernel
theorem dX4_write_39 : decode cX4_write 39 = .ok (.imul, 1) := by decide +kernel
theorem dX4_write_40 : decode cX4_write 40 = .ok (.iload_n 2, 1) := by decide +kernel
theorem dX4_write_41 : decode cX4_write 41 = .ok (.iadd, 1) := by decide +kernel
theorem dX4_write_42 : decode cX4_write 42 = .ok (.iload 4, 2) := by decide +kernel
theorem dX4_write_44 : decode cX4_write 44 = .ok (.iastore, 1) := by decide +kernel
theorem dX4_write_45 : decode cX4_write 45 = .ok (.return_, 1) := by decide +kernel
theorem dX4_carry_0 : decode cX4_carry 0 = .ok (.aload_n 0, 1) := by decide +kernel
theorem dX4_carry_1 : decode cX4_carry 1 = .ok (.getfield 18, 3) := by decide +kernel
theorem dX4_carry_4 : decode cX4_carry 4 = .ok (.iload_n 1, 1) := by decide +kernel
theorem dX4_carry_5 : decode cX4_carry 5 = .ok (.bipush 40, 2) := by decide +kernel
theorem dX4_carry_7 : decode cX4_carry 7 = .ok (.imul, 1) := by decide +kernel
theorem dX4_carry_8 : decode cX4_carry 8 = .ok (.iload_n 2, 1) := by decide +kernel
theorem dX4_carry_9 : decode cX4_carry 9 = .ok (.iadd, 1) := by decide +kernel
theorem dX4_carry_10 : decode cX4_carry 10 = .ok (.aload_n 0, 1) := by decide +kernel
theorem dX4_carry_11 : decode cX4_carry 11 = .ok (.getfield 18, 3) := by decide +kernel
theorem dX4_carry_14 : decode cX4_carry 14 = .ok (.iload_n 3, 1) := by decide +kernel
theorem dX4_carry_15 : decode cX4_carry 15 = .ok (.bipush 40, 2) := by decide +kernel
theorem dX4_carry_17 : decode cX4_carry 17 = .ok (.imul, 1) := by decide +kernel
theorem dX4_carry_18 : decode cX4_carry 18 = .ok (.iload 4, 2) := by decide +kernel
theorem dX4_carry_20 : decode cX4_carry 20 = .ok (.iadd, 1) := by decide +kernel
theorem dX4_carry_21 : decode cX4_carry 21 = .ok (.iload 5, 2) := by decide +kernel
theorem dX4_carry_23 : decode cX4_carry 23 = .ok (.invokestatic 25, 3) := by decide +kernel
theorem dX4_carry_26 : decode cX4_carry 26 = .ok (.return_, 1) := by decide +kernel
theorem dX5_init_0 : decode cX5_init 0 = .ok (.aload_n 0, 1) := by decide +kernel
theorem dX5_init_1 : decode cX5_init 1 = .ok (.invokespecial 3, 3) := by decide +kernel
theorem dX5_init_4 : decode cX5_init 4 = .ok (.aload_n 0, 1) := by decide +kernel
theorem dX5_init_5 : decode cX5_init 5 = .ok (.bipush 8, 2) := by decide +kernel
theorem dX5_init_7 : decode cX5_init 7 = .ok (.newarray .int, 2) := by decide +kernel
theorem dX5_init_9 : decode cX5_init 9 = .ok (.putfield 9, 3) := by decide +kernel
theorem dX5_init_12 : decode cX5_init 12 = .ok (.aload_n 0, 1) := by decide +kernel
theorem dX5_init_13 : decode cX5_init 13 = .ok (.bipush 8, 2) := by decide +kernel
theorem dX5_init_15 : decode cX5_init 15 = .ok (.newarray .int, 2) := by decide +kernel
theorem dX5_init_17 : decode cX5_init 17 = .ok (.putfield 15, 3) := by decide +kernel
theorem dX5_init_20 : decode cX5_init 20 = .ok (.aload_n 0, 1) := by decide +kernel
theorem dX5_init_21 : decode cX5_init 21 = .ok (.bipush 8, 2) := by decide +kernel
theorem dX5_init_23 : decode cX5_init 23 = .ok (.newarray .int, 2) := by decide +kernel
theorem dX5_init_25 : decode cX5_init 25 = .ok (.putfield 18, 3) := by decide +kernel
theorem dX5_init_28 : decode cX5_init 28 = .ok (.aload_n 0, 1) := by decide +kernel
theorem dX5_init_29 : decode cX5_init 29 = .ok (.bipush 8, 2) := by decide +kernel
theorem dX5_init_31 : decode cX5_init 31 = .ok (.newarray .int, 2) := by decide +kernel
theorem dX5_init_33 : decode cX5_init 33 = .ok (.putfield 21, 3) := by decide +kernel
theorem dX5_init_36 : decode cX5_init 36 = .ok (.return_, 1) := by decide +kernel
theorem dX5_has_0 : decode cX5_has 0 = .ok (.iload_n 1, 1) := by decide +kernel
theorem dX5_has_1 : decode cX5_has 1 = .ok (.aload_n 0, 1) := by decide +kernel
theorem dX5_has_2 : decode cX5_has 2 = .ok (.getfield 24, 3) := by decide +kernel
theorem dX5_has_5 : decode cX5_has 5 = .ok (.invokestatic 28, 3) := by decide +kernel
theorem dX5_has_8 : decode cX5_has 8 = .ok (.ireturn, 1) := by decide +kernel
theorem dX5_all_0 : decode cX5_all 0 = .ok (.iconst 1, 1) := by decide +kernel
theorem dX5_all_1 : decode cX5_all 1 = .ok (.aload_n 0, 1) := by decide +kernel
theorem dX5_all_2 : decode cX5_all 2 = .ok (.getfield 24, 3) := by decide +kernel
theorem dX5_all_5 : decode cX5_all 5 = .ok (.ishl, 1) := by decide +kernel
theorem dX5_all_6 : decode cX5_all 6 = .ok (.iconst 1, 1) := by decide +kernel
theorem dX5_all_7 : decode cX5_all 7 = .ok (.isub, 1) := by decide +kernel
theorem dX5_all_8 : decode cX5_all 8 = .ok (.ireturn, 1) := by decide +kernel
theorem dX5_add_0 : decode cX5_add 0 = .ok (.aload_n 0, 1) := by decide +kernel
theorem dX5_add_1 : decode cX5_add 1 = .ok (.getfield 24, 3) := by decide +kernel
theorem dX5_add_4 : decode cX5_add 4 = .ok (.bipush 8, 2) := by decide +kernel
theorem dX5_add_6 : decode cX5_add 6 = .ok (.if_icmp .lt 6, 3) := by decide +kernel
theorem dX5_add_9 : decode cX5_add 9 = .ok (.bipush (-4), 2) := by decide +kernel
theorem dX5_add_11 : decode cX5_add 11 = .ok (.ireturn, 1) := by decide +kernel
theorem dX5_add_12 : decode cX5_add 12 = .ok (.aload_n 0, 1) := by decide +kernel
theorem dX5_add_13 : decode cX5_add 13 = .ok (.getfield 9, 3) := by decide +kernel
theorem dX5_add_16 : decode cX5_add 16 = .ok (.aload_n 0, 1) := by decide +kernel
theorem dX5_add_17 : decode cX5_add 17 = .ok (.getfield 24, 3) := by decide +kernel
theorem dX5_add_20 : decode cX5_add 20 = .ok (.iload_n 1, 1) := by decide +kernel
theorem dX5_add_21 : decode cX5_add 21 = .ok (.iastore, 1) := by decide +kernel
theorem dX5_add_22 : decode cX5_add 22 = .ok (.aload_n 0, 1) := by decide +kernel
theorem dX5_add_23 : decode cX5_add 23 = .ok (.getfield 15, 3) := by decide +kernel
theorem dX5_add_26 : decode cX5_add 26 = .ok (.aload_n 0, 1) := by decide +kernel
theorem dX5_add_27 : decode cX5_add 27 = .ok (.getfield 24, 3) := by decide +kernel
theorem dX5_add_30 : decode cX5_add 30 = .ok (.iload_n 2, 1) := by decide +kernel
theorem dX5_add_31 : decode cX5_add 31 = .ok (.iastore, 1) := by decide +kernel
theorem dX5_add_32 : decode cX5_add 32 = .ok (.aload_n 0, 1) := by decide +kernel
theorem dX5_add_33 : decode cX5_add 33 = .ok (.getfield 18, 3) := by decide +kernel
theorem dX5_add_36 : decode cX5_add 36 = .ok (.aload_n 0, 1) := by decide +kernel
theorem dX5_add_37 : decode cX5_add 37 = .ok (.getfield 24, 3) := by decide +kernel
theorem dX5_add_40 : decode cX5_add 40 = .ok (.iload_n 3, 1) := by decide +kernel
theorem dX5_add_41 : decode cX5_add 41 = .ok (.iastore, 1) := by decide +kernel
theorem dX5_add_42 : decode cX5_add 42 = .ok (.aload_n 0, 1) := by decide +kernel
theorem dX5_add_43 : decode cX5_add 43 = .ok (.getfield 21, 3) := by decide +kernel
theorem dX5_add_46 : decode cX5_add 46 = .ok (.aload_n 0, 1) := by decide +kernel
theorem dX5_add_47 : decode cX5_add 47 = .ok (.getfield 24, 3) := by decide +kernel
theorem dX5_add_50 : decode cX5_add 50 = .ok (.iconst (-1), 1) := by decide +kernel
theorem dX5_add_51 : decode cX5_add 51 = .ok (.iastore, 1) := by decide +kernel
theorem dX5_add_52 : decode cX5_add 52 = .ok (.aload_n 0, 1) := by decide +kernel
theorem dX5_add_53 : decode cX5_add 53 = .ok (.dup, 1) := by decide +kernel
theorem dX5_add_54 : decode cX5_add 54 = .ok (.getfield 24, 3) := by decide +kernel
theorem dX5_add_57 : decode cX5_add 57 = .ok (.iconst 1, 1) := by decide +kernel
theorem dX5_add_58 : decode cX5_add 58 = .ok (.iadd, 1) := by decide +kernel
theorem dX5_add_59 : decode cX5_add 59 = .ok (.putfield 24, 3) := by decide +kernel
theorem dX5_add_62 : decode cX5_add 62 = .ok (.aload_n 0, 1) := by decide +kernel
theorem dX5_add_63 : decode cX5_add 63 = .ok (.getfield 24, 3) := by decide +kernel
theorem dX5_add_66 : decode cX5_add 66 = .ok (.iconst 1, 1) := by decide +kernel
theorem dX5_add_67 : decode cX5_add 67 = .ok (.isub, 1) := by decide +kernel
theorem dX5_add_68 : decode cX5_add 68 = .ok (.ireturn, 1) := by decide +kernel
theorem dX5_join_0 : decode cX5_join 0 = .ok (.aload_n 0, 1) := by decide +kernel
theorem dX5_join_1 : decode cX5_join 1 = .ok (.iload_n 1, 1) := by decide +kernel
theorem dX5_join_2 : decode cX5_join 2 = .ok (.invokevirtual 32, 3) := by decide +kernel
theorem dX5_join_5 : decode cX5_join 5 = .ok (.aload_n 0, 1) := by decide +kernel
theorem dX5_join_6 : decode cX5_join 6 = .ok (.iload_n 2, 1) := by decide +kernel
theorem dX5_join_7 : decode cX5_join 7 = .ok (.invokevirtual 32, 3) := by decide +kernel
theorem dX5_join_10 : decode cX5_join 10 = .ok (.aload_n 0, 1) := by decide +kernel
theorem dX5_join_11 : decode cX5_join 11 = .ok (.getfield 21, 3) := by decide +kernel
theorem dX5_join_14 : decode cX5_join 14 = .ok (.iload_n 1, 1) := by decide +kernel
theorem dX5_join_15 : decode cX5_join 15 = .ok (.iload_n 2, 1) := by decide +kernel
theorem dX5_join_16 : decode cX5_join 16 = .ok (.iastore, 1) := by decide +kernel
theorem dX5_join_17 : decode cX5_join 17 = .ok (.aload_n 0, 1) := by decide +kernel
theorem dX5_join_18 : decode cX5_join 18 = .ok (.getfield 21, 3) := by decide +kernel
theorem dX5_join_21 : decode cX5_join 21 = .ok (.iload_n 2, 1) := by decide +kernel
theorem dX5_join_22 : decode cX5_join 22 = .ok (.iload_n 1, 1) := by decide +kernel
theorem dX5_join_23 : decode cX5_join 23 = .ok (.iastore, 1) := by decide +kernel
theorem dX5_join_24 : decode cX5_join 24 = .ok (.return_, 1) := by decide +kernel
theorem dX5_part_0 : decode cX5_part 0 = .ok (.aload_n 0, 1) := by decide +kernel
theorem dX5_part_1 : decode cX5_part 1 = .ok (.getfield 21, 3) := by decide +kernel
theorem dX5_part_4 : decode cX5_part 4 = .ok (.iload_n 1, 1) := by decide +kernel
theorem dX5_part_5 : decode cX5_part 5 = .ok (.iaload, 1) := by decide +kernel
theorem dX5_part_6 : decode cX5_part 6 = .ok (.istore_n 2, 1) := by decide +kernel
theorem dX5_part_7 : decode cX5_part 7 = .ok (.aload_n 0, 1) := by decide +kernel
theorem dX5_part_8 : decode cX5_part 8 = .ok (.iload_n 2, 1) := by decide +kernel
theorem dX5_part_9 : decode cX5_part 9 = .ok (.invokevirtual 36, 3) := by decide +kernel
theorem dX5_part_12 : decode cX5_part 12 = .ok (.ifCond .eq 17, 3) := by decide +kernel
theorem dX5_part_15 : decode cX5_part 15 = .ok (.aload_n 0, 1) := by decide +kernel
theorem dX5_part_16 : decode cX5_part 16 = .ok (.getfield 21, 3) := by decide +kernel
theorem dX5_part_19 : decode cX5_part 19 = .ok (.iload_n 2, 1) := by decide +kernel
theorem dX5_part_20 : decode cX5_part 20 = .ok (.iconst (-1), 1) := by decide +kernel
theorem dX5_part_21 : decode cX5_part 21 = .ok (.iastore, 1) := by decide +kernel
theorem dX5_part_22 : decode cX5_part 22 = .ok (.aload_n 0, 1) := by decide +kernel
theorem dX5_part_23 : decode cX5_part 23 = .ok (.getfield 21, 3) := by decide +kernel
theorem dX5_part_26 : decode cX5_part 26 = .ok (.iload_n 1, 1) := by decide +kernel
theorem dX5_part_27 : decode cX5_part 27 = .ok (.iconst (-1), 1) := by decide +kernel
theorem dX5_part_28 : decode cX5_part 28 = .ok (.iastore, 1) := by decide +kernel
theorem dX5_part_29 : decode cX5_part 29 = .ok (.return_, 1) := by decide +kernel
theorem dX5_withTwins_0 : decode cX5_withTwins 0 = .ok (.iload_n 1, 1) := by decide +kernel
theorem dX5_withTwins_1 : decode cX5_withTwins 1 = .ok (.istore_n 2, 1) := by decide +kernel
theorem dX5_withTwins_2 : decode cX5_withTwins 2 = .ok (.iconst 0, 1) := by decide +kernel
theorem dX5_withTwins_3 : decode cX5_withTwins 3 = .ok (.istore_n 3, 1) := by decide +kernel
theorem dX5_withTwins_4 : decode cX5_withTwins 4 = .ok (.iload_n 3, 1) := by decide +kernel
theorem dX5_withTwins_5 : decode cX5_withTwins 5 = .ok (.aload_n 0, 1) := by decide +kernel
theorem dX5_withTwins_6 : decode cX5_withTwins 6 = .ok (.getfield 24, 3) := by decide +kernel
theorem dX5_withTwins_9 : decode cX5_withTwins 9 = .ok (.if_icmp .ge 43, 3) := by decide +kernel
theorem dX5_withTwins_12 : decode cX5_withTwins 12 = .ok (.iload_n 1, 1) := by decide +kernel
theorem dX5_withTwins_13 : decode cX5_withTwins 13 = .ok (.ifCond .eq 39, 3) := by decide +kernel
theorem dX5_withTwins_16 : decode cX5_withTwins 16 = .ok (.iload_n 1, 1) := by decide +kernel
theorem dX5_withTwins_17 : decode cX5_withTwins 17 = .ok (.iload_n 3, 1) := by decide +kernel
theorem dX5_withTwins_18 : decode cX5_withTwins 18 = .ok (.ishr, 1) := by decide +kernel
theorem dX5_withTwins_19 : decode cX5_withTwins 19 = .ok (.iconst 1, 1) := by decide +kernel
theorem dX5_withTwins_20 : decode cX5_withTwins 20 = .ok (.iand, 1) := by decide +kernel
theorem dX5_withTwins_21 : decode cX5_withTwins 21 = .ok (.iconst 1, 1) := by decide +kernel
theorem dX5_withTwins_22 : decode cX5_withTwins 22 = .ok (.if_icmp .ne 24, 3) := by decide +kernel
theorem dX5_withTwins_25 : decode cX5_withTwins 25 = .ok (.aload_n 0, 1) := by decide +kernel
theorem dX5_withTwins_26 : decode cX5_withTwins 26 = .ok (.getfield 21, 3) := by decide +kernel
theorem dX5_withTwins_29 : decode cX5_withTwins 29 = .ok (.iload_n 3, 1) := by decide +kernel
theorem dX5_withTwins_30 : decode cX5_withTwins 30 = .ok (.iaload, 1) := by decide +kernel
theorem dX5_withTwins_31 : decode cX5_withTwins 31 = .ok (.iconst (-1), 1) := by decide +kernel
theorem dX5_withTwins_32 : decode cX5_withTwins 32 = .ok (.if_icmp .eq 14, 3) := by decide +kernel
theorem dX5_withTwins_35 : decode cX5_withTwins 35 = .ok (.iload_n 2, 1) := by decide +kernel
theorem dX5_withTwins_36 : decode cX5_withTwins 36 = .ok (.iconst 1, 1) := by decide +kernel
theorem dX5_withTwins_37 : decode cX5_withTwins 37 = .ok (.aload_n 0, 1) := by decide +kernel
theorem dX5_withTwins_38 : decode cX5_withTwins 38 = .ok (.getfield 21, 3) := by decide +kernel
theorem dX5_withTwins_41 : decode cX5_withTwins 41 = .ok (.iload_n 3, 1) := by decide +kernel
theorem dX5_withTwins_42 : decode cX5_withTwins 42 = .ok (.iaload, 1) := by decide +kernel
theorem dX5_withTwins_43 : decode cX5_withTwins 43 = .ok (.ishl, 1) := by decide +kernel
theorem dX5_withTwins_44 : decode cX5_withTwins 44 = .ok (.ior, 1) := by decide +kernel
theorem dX5_withTwins_45 : decode cX5_withTwins 45 = .ok (.istore_n 2, 1) := by decide +kernel
theorem dX5_withTwins_46 : decode cX5_withTwins 46 = .ok (.iinc 3 1, 3) := by decide +kernel
theorem dX5_withTwins_49 : decode cX5_withTwins 49 = .ok (.goto (-45), 3) := by decide +kernel
theorem dX5_withTwins_52 : decode cX5_withTwins 52 = .ok (.iload_n 2, 1) := by decide +kernel
theorem dX5_withTwins_53 : decode cX5_withTwins 53 = .ok (.ireturn, 1) := by decide +kernel
theorem dX5_counts_0 : decode cX5_counts 0 = .ok (.aload_n 0, 1) := by decide +kernel
theorem dX5_counts_1 : decode cX5_counts 1 = .ok (.getfield 15, 3) := by decide +kernel
theorem dX5_counts_4 : decode cX5_counts 4 = .ok (.iload_n 1, 1) := by decide +kernel
theorem dX5_counts_5 : decode cX5_counts 5 = .ok (.iaload, 1) := by decide +kernel
theorem dX5_counts_6 : decode cX5_counts 6 = .ok (.istore_n 3, 1) := by decide +kernel
theorem dX5_counts_7 : decode cX5_counts 7 = .ok (.iload_n 3, 1) := by decide +kernel
theorem dX5_counts_8 : decode cX5_counts 8 = .ok (.iconst 2, 1) := by decide +kernel
theorem dX5_counts_9 : decode cX5_counts 9 = .ok (.iadd, 1) := by decide +kernel
theorem dX5_counts_10 : decode cX5_counts 10 = .ok (.istore 4, 2) := by decide +kernel
theorem dX5_counts_12 : decode cX5_counts 12 = .ok (.iload_n 2, 1) := by decide +kernel
theorem dX5_counts_13 : decode cX5_counts 13 = .ok (.bipush 14, 2) := by decide +kernel
theorem dX5_counts_15 : decode cX5_counts 15 = .ok (.if_icmp .ge 9, 3) := by decide +kernel
theorem dX5_counts_18 : decode cX5_counts 18 = .ok (.iconst 2, 1) := by decide +kernel
theorem dX5_counts_19 : decode cX5_counts 19 = .ok (.iload_n 3, 1) := by decide +kernel
theorem dX5_counts_20 : decode cX5_counts 20 = .ok (.imul, 1) := by decide +kernel
theorem dX5_counts_21 : decode cX5_counts 21 = .ok (.goto 4, 3) := by decide +kernel
theorem dX5_counts_24 : decode cX5_counts 24 = .ok (.iload_n 3, 1) := by decide +kernel
theorem dX5_counts_25 : decode cX5_counts 25 = .ok (.istore 5, 2) := by decide +kernel
theorem dX5_counts_27 : decode cX5_counts 27 = .ok (.aload_n 0, 1) := by decide +kernel
theorem dX5_counts_28 : decode cX5_counts 28 = .ok (.getfield 9, 3) := by decide +kernel
theorem dX5_counts_31 : decode cX5_counts 31 = .ok (.iload_n 1, 1) := by decide +kernel
theorem dX5_counts_32 : decode cX5_counts 32 = .ok (.iaload, 1) := by decide +kernel
theorem dX5_counts_33 : decode cX5_counts 33 = .ok (.tableswitch 72 1 5 #[35, 38, 41, 46, 56], 35) := by decide +kernel
theorem dX5_counts_68 : decode cX5_counts 68 = .ok (.iload 4, 2) := by decide +kernel
theorem dX5_counts_70 : decode cX5_counts 70 = .ok (.ireturn, 1) := by decide +kernel
theorem dX5_counts_71 : decode cX5_counts 71 = .ok (.iload 5, 2) := by decide +kernel
theorem dX5_counts_73 : decode cX5_counts 73 = .ok (.ireturn, 1) := by decide +kernel
theorem dX5_counts_74 : decode cX5_counts 74 = .ok (.iload 4, 2) := by decide +kernel
theorem dX5_counts_76 : decode cX5_counts 76 = .ok (.iconst 2, 1) := by decide +kernel
theorem dX5_counts_77 : decode cX5_counts 77 = .ok (.idiv, 1) := by decide +kernel
theorem dX5_counts_78 : decode cX5_counts 78 = .ok (.ireturn, 1) := by decide +kernel
theorem dX5_counts_79 : decode cX5_counts 79 = .ok (.iload 5, 2) := by decide +kernel
theorem dX5_counts_81 : decode cX5_counts 81 = .ok (.aload_n 0, 1) := by decide +kernel
theorem dX5_counts_82 : decode cX5_counts 82 = .ok (.getfield 18, 3) := by decide +kernel
theorem dX5_counts_85 : decode cX5_counts 85 = .ok (.iload_n 1, 1) := by decide +kernel
theorem dX5_counts_86 : decode cX5_counts 86 = .ok (.iaload, 1) := by decide +kernel
theorem dX5_counts_87 : decode cX5_counts 87 = .ok (.iadd, 1) := by decide +kernel
theorem dX5_counts_88 : decode cX5_counts 88 = .ok (.ireturn, 1) := by decide +kernel
theorem dX5_counts_89 : decode cX5_counts 89 = .ok (.iload_n 2, 1) := by decide +kernel
theorem dX5_counts_90 : decode cX5_counts 90 = .ok (.bipush 60, 2) := by decide +kernel
theorem dX5_counts_92 : decode cX5_counts 92 = .ok (.if_icmp .lt 10, 3) := by decide +kernel
theorem dX5_counts_95 : decode cX5_counts 95 = .ok (.iload 4, 2) := by decide +kernel
theorem dX5_counts_97 : decode cX5_counts 97 = .ok (.iconst 5, 1) := by decide +kernel
theorem dX5_counts_98 : decode cX5_counts 98 = .ok (.iadd, 1) := by decide +kernel
theorem dX5_counts_99 : decode cX5_counts 99 = .ok (.goto 5, 3) := by decide +kernel
theorem dX5_counts_102 : decode cX5_counts 102 = .ok (.iload 4, 2) := by decide +kernel
theorem dX5_counts_104 : decode cX5_counts 104 = .ok (.ireturn, 1) := by decide +kernel
theorem dX5_counts_105 : decode cX5_counts 105 = .ok (.iload_n 3, 1) := by decide +kernel
theorem dX5_counts_106 : decode cX5_counts 106 = .ok (.ireturn, 1) := by decide +kernel
theorem dX5_stays_0 : decode cX5_stays 0 = .ok (.bipush 30, 2) := by decide +kernel
theorem dX5_stays_2 : decode cX5_stays 2 = .ok (.istore_n 2, 1) := by decide +kernel
theorem dX5_stays_3 : decode cX5_stays 3 = .ok (.iload_n 2, 1) := by decide +kernel
theorem dX5_stays_4 : decode cX5_stays 4 = .ok (.aload_n 0, 1) := by decide +kernel
theorem dX5_stays_5 : decode cX5_stays 5 = .ok (.getfield 18, 3) := by decide +kernel
theorem dX5_stays_8 : decode cX5_stays 8 = .ok (.iload_n 1, 1) := by decide +kernel
theorem dX5_stays_9 : decode cX5_stays 9 = .ok (.iaload, 1) := by decide +kernel
theorem dX5_stays_10 : decode cX5_stays 10 = .ok (.iadd, 1) := by decide +kernel
theorem dX5_stays_11 : decode cX5_stays 11 = .ok (.istore_n 3, 1) := by decide +kernel
theorem dX5_stays_12 : decode cX5_stays 12 = .ok (.iload_n 2, 1) := by decide +kernel
theorem dX5_stays_13 : decode cX5_stays 13 = .ok (.iconst 2, 1) := by decide +kernel
theorem dX5_stays_14 : decode cX5_stays 14 = .ok (.idiv, 1) := by decide +kernel
theorem dX5_stays_15 : decode cX5_stays 15 = .ok (.istore 4, 2) := by decide +kernel
theorem dX5_stays_17 : decode cX5_stays 17 = .ok (.aload_n 0, 1) := by decide +kernel
theorem dX5_stays_18 : decode cX5_stays 18 = .ok (.getfield 9, 3) := by decide +kernel
theorem dX5_stays_21 : decode cX5_stays 21 = .ok (.iload_n 1, 1) := by decide +kernel
theorem dX5_stays_22 : decode cX5_stays 22 = .ok (.iaload, 1) := by decide +kernel
theorem dX5_stays_23 : decode cX5_stays 23 = .ok (.tableswitch 52 1 5 #[33, 35, 38, 47, 33], 33) := by decide +kernel
theorem dX5_stays_56 : decode cX5_stays 56 = .ok (.iload_n 3, 1) := by decide +kernel
theorem dX5_stays_57 : decode cX5_stays 57 = .ok (.ireturn, 1) := by decide +kernel
theorem dX5_stays_58 : decode cX5_stays 58 = .ok (.iload 4, 2) := by decide +kernel
theorem dX5_stays_60 : decode cX5_stays 60 = .ok (.ireturn, 1) := by decide +kernel
theorem dX5_stays_61 : decode cX5_stays 61 = .ok (.iconst 0, 1) := by decide +kernel
theorem dX5_stays_62 : decode cX5_stays 62 = .ok (.iload_n 3, 1) := by decide +kernel
theorem dX5_stays_63 : decode cX5_stays 63 = .ok (.bipush 20, 2) := by decide +kernel
theorem dX5_stays_65 : decode cX5_stays 65 = .ok (.isub, 1) := by decide +kernel
theorem dX5_stays_66 : decode cX5_stays 66 = .ok (.invokestatic 40, 3) := by decide +kernel
theorem dX5_stays_69 : decode cX5_stays 69 = .ok (.ireturn, 1) := by decide +kernel
theorem dX5_stays_70 : decode cX5_stays 70 = .ok (.iconst 2, 1) := by decide +kernel
theorem dX5_stays_71 : decode cX5_stays 71 = .ok (.iload 4, 2) := by decide +kernel
theorem dX5_stays_73 : decode cX5_stays 73 = .ok (.imul, 1) := by decide +kernel
theorem dX5_stays_74 : decode cX5_stays 74 = .ok (.ireturn, 1) := by decide +kernel
theorem dX5_stays_75 : decode cX5_stays 75 = .ok (.iload_n 2, 1) := by decide +kernel
theorem dX5_stays_76 : decode cX5_stays 76 = .ok (.ireturn, 1) := by decide +kernel
theorem dX5_isUnder_0 : decode cX5_isUnder 0 = .ok (.aload_n 0, 1) := by decide +kernel
theorem dX5_isUnder_1 : decode cX5_isUnder 1 = .ok (.getfield 9, 3) := by decide +kernel
theorem dX5_isUnder_4 : decode cX5_isUnder 4 = .ok (.iload_n 1, 1) := by decide +kernel
theorem dX5_isUnder_5 : decode cX5_isUnder 5 = .ok (.iaload, 1) := by decide +kernel
theorem dX5_isUnder_6 : decode cX5_isUnder 6 = .ok (.istore_n 3, 1) := by decide +kernel
theorem dX5_isUnder_7 : decode cX5_isUnder 7 = .ok (.iconst 0, 1) := by decide +kernel
theorem dX5_isUnder_8 : decode cX5_isUnder 8 = .ok (.istore 4, 2) := by decide +kernel
theorem dX5_isUnder_10 : decode cX5_isUnder 10 = .ok (.iload 4, 2) := by decide +kernel
theorem dX5_isUnder_12 : decode cX5_isUnder 12 = .ok (.bipush 6, 2) := by decide +kernel
theorem dX5_isUnder_14 : decode cX5_isUnder 14 = .ok (.if_icmp .ge 27, 3) := by decide +kernel
theorem dX5_isUnder_17 : decode cX5_isUnder 17 = .ok (.iload_n 3, 1) := by decide +kernel
theorem dX5_isUnder_18 : decode cX5_isUnder 18 = .ok (.iconst (-1), 1) := by decide +kernel
theorem dX5_isUnder_19 : decode cX5_isUnder 19 = .ok (.if_icmp .eq 22, 3) := by decide +kernel
theorem dX5_isUnder_22 : decode cX5_isUnder 22 = .ok (.iload_n 3, 1) := by decide +kernel
theorem dX5_isUnder_23 : decode cX5_isUnder 23 = .ok (.iload_n 2, 1) := by decide +kernel
theorem dX5_isUnder_24 : decode cX5_isUnder 24 = .ok (.if_icmp .ne 5, 3) := by decide +kernel
theorem dX5_isUnder_27 : decode cX5_isUnder 27 = .ok (.iconst 1, 1) := by decide +kernel
theorem dX5_isUnder_28 : decode cX5_isUnder 28 = .ok (.ireturn, 1) := by decide +kernel
theorem dX5_isUnder_29 : decode cX5_isUnder 29 = .ok (.getstatic 46, 3) := by decide +kernel
theorem dX5_isUnder_32 : decode cX5_isUnder 32 = .ok (.iload_n 3, 1) := by decide +kernel
theorem dX5_isUnder_33 : decode cX5_isUnder 33 = .ok (.iaload, 1) := by decide +kernel
theorem dX5_isUnder_34 : decode cX5_isUnder 34 = .ok (.istore_n 3, 1) := by decide +kernel
theorem dX5_isUnder_35 : decode cX5_isUnder 35 = .ok (.iinc 4 1, 3) := by decide +kernel
theorem dX5_isUnder_38 : decode cX5_isUnder 38 = .ok (.goto (-28), 3) := by decide +kernel
theorem dX5_isUnder_41 : decode cX5_isUnder 41 = .ok (.iconst 0, 1) := by decide +kernel
theorem dX5_isUnder_42 : decode cX5_isUnder 42 = .ok (.ireturn, 1) := by decide +kernel
theorem dX7_init_0 : decode cX7_init 0 = .ok (.aload_n 0, 1) := by decide +kernel
theorem dX7_init_1 : decode cX7_init 1 = .ok (.invokespecial 3, 3) := by decide +kernel
theorem dX7_init_4 : decode cX7_init 4 = .ok (.aload_n 0, 1) := by decide +kernel
theorem dX7_init_5 : decode cX7_init 5 = .ok (.bipush 6, 2) := by decide +kernel
theorem dX7_init_7 : decode cX7_init 7 = .ok (.anewarray 9, 3) := by decide +kernel
theorem dX7_init_10 : decode cX7_init 10 = .ok (.putfield 11, 3) := by decide +kernel
theorem dX7_init_13 : decode cX7_init 13 = .ok (.aload_n 0, 1) := by decide +kernel
theorem dX7_init_14 : decode cX7_init 14 = .ok (.bipush 6, 2) := by decide +kernel
theorem dX7_init_16 : decode cX7_init 16 = .ok (.newarray .int, 2) := by decide +kernel
theorem dX7_init_18 : decode cX7_init 18 = .ok (.putfield 19, 3) := by decide +kernel
theorem dX7_init_21 : decode cX7_init 21 = .ok (.aload_n 0, 1) := by decide +kernel
theorem dX7_init_22 : decode cX7_init 22 = .ok (.bipush 31, 2) := by decide +kernel
theorem dX7_init_24 : decode cX7_init 24 = .ok (.newarray .int, 2) := by decide +kernel
theorem dX7_init_26 : decode cX7_init 26 = .ok (.putfield 23, 3) := by decide +kernel
theorem dX7_init_29 : decode cX7_init 29 = .ok (.return_, 1) := by decide +kernel
theorem dX7_has_0 : decode cX7_has 0 = .ok (.iload_n 1, 1) := by decide +kernel
theorem dX7_has_1 : decode cX7_has 1 = .ok (.aload_n 0, 1) := by decide +kernel
theorem dX7_has_2 : decode cX7_has 2 = .ok (.getfield 26, 3) := by decide +kernel
theorem dX7_has_5 : decode cX7_has 5 = .ok (.invokestatic 30, 3) := by decide +kernel
theorem dX7_has_8 : decode cX7_has 8 = .ok (.ireturn, 1) := by decide +kernel
theorem dX7_at_0 : decode cX7_at 0 = .ok (.iload_n 1, 1) := by decide +kernel
theorem dX7_at_1 : decode cX7_at 1 = .ok (.ifCond .lt 20, 3) := by decide +kernel
theorem dX7_at_4 : decode cX7_at 4 = .ok (.iload_n 1, 1) := by decide +kernel
theorem dX7_at_5 : decode cX7_at 5 = .ok (.aload_n 0, 1) := by decide +kernel
theorem dX7_at_6 : decode cX7_at 6 = .ok (.getfield 26, 3) := by decide +kernel
theorem dX7_at_9 : decode cX7_at 9 = .ok (.if_icmp .ge 12, 3) := by decide +kernel
theorem dX7_at_12 : decode cX7_at 12 = .ok (.aload_n 0, 1) := by decide +kernel
theorem dX7_at_13 : decode cX7_at 13 = .ok (.getfield 11, 3) := by decide +kernel
theorem dX7_at_16 : decode cX7_at 16 = .ok (.iload_n 1, 1) := by decide +kernel
theorem dX7_at_17 : decode cX7_at 17 = .ok (.aaload, 1) := by decide +kernel
theorem dX7_at_18 : decode cX7_at 18 = .ok (.goto 4, 3) := by decide +kernel
theorem dX7_at_21 : decode cX7_at 21 = .ok (.aconst_null, 1) := by decide +kernel
theorem dX7_at_22 : decode cX7_at 22 = .ok (.areturn, 1) := by decide +kernel
theorem dX7_isFull_0 : decode cX7_isFull 0 = .ok (.aload_n 0, 1) := by decide +kernel
theorem dX7_isFull_1 : decode cX7_isFull 1 = .ok (.getfield 26, 3) := by decide +kernel
theorem dX7_isFull_4 : decode cX7_isFull 4 = .ok (.bipush 6, 2) := by decide +kernel
theorem dX7_isFull_6 : decode cX7_isFull 6 = .ok (.if_icmp .lt 7, 3) := by decide +kernel
theorem dX7_isFull_9 : decode cX7_isFull 9 = .ok (.iconst 1, 1) := by decide +kernel
theorem dX7_isFull_10 : decode cX7_isFull 10 = .ok (.goto 4, 3) := by decide +kernel
theorem dX7_isFull_13 : decode cX7_isFull 13 = .ok (.iconst 0, 1) := by decide +kernel
theorem dX7_isFull_14 : decode cX7_isFull 14 = .ok (.ireturn, 1) := by decide +kernel
theorem dX7_add_0 : decode cX7_add 0 = .ok (.aload_n 0, 1) := by decide +kernel
theorem dX7_add_1 : decode cX7_add 1 = .ok (.invokevirtual 34, 3) := by decide +kernel
theorem dX7_add_4 : decode cX7_add 4 = .ok (.ifCond .eq 6, 3) := by decide +kernel
theorem dX7_add_7 : decode cX7_add 7 = .ok (.bipush (-4), 2) := by decide +kernel
theorem dX7_add_9 : decode cX7_add 9 = .ok (.ireturn, 1) := by decide +kernel
theorem dX7_add_10 : decode cX7_add 10 = .ok (.aload_n 0, 1) := by decide +kernel
theorem dX7_add_11 : decode cX7_add 11 = .ok (.getfield 11, 3) := by decide +kernel
theorem dX7_add_14 : decode cX7_add 14 = .ok (.aload_n 0, 1) := by decide +kernel
theorem dX7_add_15 : decode cX7_add 15 = .ok (.getfield 26, 3) := by decide +kernel
theorem dX7_add_18 : decode cX7_add 18 = .ok (.aload_n 1, 1) := by decide +kernel
theorem dX7_add_19 : decode cX7_add 19 = .ok (.aastore, 1) := by decide +kernel
theorem dX7_add_20 : decode cX7_add 20 = .ok (.aload_n 0, 1) := by decide +kernel
theorem dX7_add_21 : decode cX7_add 21 = .ok (.dup, 1) := by decide +kernel
theorem dX7_add_22 : decode cX7_add 22 = .ok (.getfield 26, 3) := by decide +kernel
theorem dX7_add_25 : decode cX7_add 25 = .ok (.iconst 1, 1) := by decide +kernel
theorem dX7_add_26 : decode cX7_add 26 = .ok (.iadd, 1) := by decide +kernel
theorem dX7_add_27 : decode cX7_add 27 = .ok (.putfield 26, 3) := by decide +kernel
theorem dX7_add_30 : decode cX7_add 30 = .ok (.aload_n 0, 1) := by decide +kernel
theorem dX7_add_31 : decode cX7_add 31 = .ok (.getfield 26, 3) := by decide +kernel
theorem dX7_add_34 : decode cX7_add 34 = .ok (.iconst 1, 1) := by decide +kernel
theorem dX7_add_35 : decode cX7_add 35 = .ok (.isub, 1) := by decide +kernel
theorem dX7_add_36 : decode cX7_add 36 = .ok (.ireturn, 1) := by decide +kernel
end
section
theorem dX8_init_0 : decode cX8_init 0 = .ok (.aload_n 0, 1) := by decide +kernel
theorem dX8_init_1 : decode cX8_init 1 = .ok (.invokespecial 3, 3) := by decide +kernel
theorem dX8_init_4 : decode cX8_init 4 = .ok (.aload_n 0, 1) := by decide +kernel
theorem dX8_init_5 : decode cX8_init 5 = .ok (.new 9, 3) := by decide +kernel
theorem dX8_init_8 : decode cX8_init 8 = .ok (.dup, 1) := by decide +kernel
theorem dX8_init_9 : decode cX8_init 9 = .ok (.invokespecial 11, 3) := by decide +kernel
theorem dX8_init_12 : decode cX8_init 12 = .ok (.putfield 12, 3) := by decide +kernel
theorem dX8_init_15 : decode cX8_init 15 = .ok (.aload_n 0, 1) := by decide +kernel
theorem dX8_init_16 : decode cX8_init 16 = .ok (.new 16, 3) := by decide +kernel
theorem dX8_init_19 : decode cX8_init 19 = .ok (.dup, 1) := by decide +kernel
theorem dX8_init_20 : decode cX8_init 20 = .ok (.invokespecial 18, 3) := by decide +kernel
theorem dX8_init_23 : decode cX8_init 23 = .ok (.putfield 19, 3) := by decide +kernel
theorem dX8_init_26 : decode cX8_init 26 = .ok (.aload_n 0, 1) := by decide +kernel
theorem dX8_init_27 : decode cX8_init 27 = .ok (.new 23, 3) := by decide +kernel
theorem dX8_init_30 : decode cX8_init 30 = .ok (.dup, 1) := by decide +kernel
theorem dX8_init_31 : decode cX8_init 31 = .ok (.invokespecial 25, 3) := by decide +kernel
theorem dX8_init_34 : decode cX8_init 34 = .ok (.putfield 26, 3) := by decide +kernel
theorem dX8_init_37 : decode cX8_init 37 = .ok (.aload_n 0, 1) := by decide +kernel
theorem dX8_init_38 : decode cX8_init 38 = .ok (.getfield 26, 3) := by decide +kernel
theorem dX8_init_41 : decode cX8_init 41 = .ok (.invokevirtual 30, 3) := by decide +kernel
theorem dX8_init_44 : decode cX8_init 44 = .ok (.aload_n 0, 1) := by decide +kernel
theorem dX8_init_45 : decode cX8_init 45 = .ok (.getfield 26, 3) := by decide +kernel
theorem dX8_init_48 : decode cX8_init 48 = .ok (.invokevirtual 33, 3) := by decide +kernel
theorem dX8_init_51 : decode cX8_init 51 = .ok (.ifCond .eq 18, 3) := by decide +kernel
theorem dX8_init_54 : decode cX8_init 54 = .ok (.aload_n 0, 1) := by decide +kernel
theorem dX8_init_55 : decode cX8_init 55 = .ok (.getfield 19, 3) := by decide +kernel
theorem dX8_init_58 : decode cX8_init 58 = .ok (.aload_n 0, 1) := by decide +kernel
theorem dX8_init_59 : decode cX8_init 59 = .ok (.getfield 26, 3) := by decide +kernel
theorem dX8_init_62 : decode cX8_init 62 = .ok (.invokevirtual 37, 3) := by decide +kernel
theorem dX8_init_65 : decode cX8_init 65 = .ok (.invokevirtual 41, 3) := by decide +kernel
theorem dX8_init_68 : decode cX8_init 68 = .ok (.pop, 1) := by decide +kernel
theorem dX8_init_69 : decode cX8_init 69 = .ok (.aload_n 0, 1) := by decide +kernel
theorem dX8_init_70 : decode cX8_init 70 = .ok (.getfield 26, 3) := by decide +kernel
theorem dX8_init_73 : decode cX8_init 73 = .ok (.invokevirtual 45, 3) := by decide +kernel
theorem dX8_init_76 : decode cX8_init 76 = .ok (.aload_n 0, 1) := by decide +kernel
theorem dX8_init_77 : decode cX8_init 77 = .ok (.new 48, 3) := by decide +kernel
theorem dX8_init_80 : decode cX8_init 80 = .ok (.dup, 1) := by decide +kernel
theorem dX8_init_81 : decode cX8_init 81 = .ok (.aload_n 0, 1) := by decide +kernel
theorem dX8_init_82 : decode cX8_init 82 = .ok (.getfield 12, 3) := by decide +kernel
theorem dX8_init_85 : decode cX8_init 85 = .ok (.aload_n 0, 1) := by decide +kernel
theorem dX8_init_86 : decode cX8_init 86 = .ok (.getfield 19, 3) := by decide +kernel
theorem dX8_init_89 : decode cX8_init 89 = .ok (.invokespecial 50, 3) := by decide +kernel
theorem dX8_init_92 : decode cX8_init 92 = .ok (.putfield 53, 3) := by decide +kernel
theorem dX8_init_95 : decode cX8_init 95 = .ok (.aload_n 0, 1) := by decide +kernel
theorem dX8_init_96 : decode cX8_init 96 = .ok (.new 48, 3) := by decide +kernel
theorem dX8_init_99 : decode cX8_init 99 = .ok (.dup, 1) := by decide +kernel
theorem dX8_init_100 : decode cX8_init 100 = .ok (.aload_n 0, 1) := by decide +kernel
theorem dX8_init_101 : decode cX8_init 101 = .ok (.getfield 12, 3) := by decide +kernel
theorem dX8_init_104 : decode cX8_init 104 = .ok (.aload_n 0, 1) := by decide +kernel
theorem dX8_init_105 : decode cX8_init 105 = .ok (.getfield 19, 3) := by decide +kernel
theorem dX8_init_108 : decode cX8_init 108 = .ok (.invokespecial 50, 3) := by decide +kernel
theorem dX8_init_111 : decode cX8_init 111 = .ok (.putfield 57, 3) := by decide +kernel
theorem dX8_init_114 : decode cX8_init 114 = .ok (.aload_n 0, 1) := by decide +kernel
theorem dX8_init_115 : decode cX8_init 115 = .ok (.new 48, 3) := by decide +kernel
theorem dX8_init_118 : decode cX8_init 118 = .ok (.dup, 1) := by decide +kernel
theorem dX8_init_119 : decode cX8_init 119 = .ok (.aload_n 0, 1) := by decide +kernel
theorem dX8_init_120 : decode cX8_init 120 = .ok (.getfield 12, 3) := by decide +kernel
theorem dX8_init_123 : decode cX8_init 123 = .ok (.aload_n 0, 1) := by decide +kernel
theorem dX8_init_124 : decode cX8_init 124 = .ok (.getfield 19, 3) := by decide +kernel
theorem dX8_init_127 : decode cX8_init 127 = .ok (.invokespecial 50, 3) := by decide +kernel
theorem dX8_init_130 : decode cX8_init 130 = .ok (.putfield 60, 3) := by decide +kernel
theorem dX8_init_133 : decode cX8_init 133 = .ok (.aload_n 0, 1) := by decide +kernel
theorem dX8_init_134 : decode cX8_init 134 = .ok (.new 63, 3) := by decide +kernel
theorem dX8_init_137 : decode cX8_init 137 = .ok (.dup, 1) := by decide +kernel
theorem dX8_init_138 : decode cX8_init 138 = .ok (.aload_n 0, 1) := by decide +kernel
theorem dX8_init_139 : decode cX8_init 139 = .ok (.getfield 53, 3) := by decide +kernel
theorem dX8_init_142 : decode cX8_init 142 = .ok (.invokespecial 65, 3) := by decide +kernel
theorem dX8_init_145 : decode cX8_init 145 = .ok (.putfield 68, 3) := by decide +kernel
theorem dX8_init_148 : decode cX8_init 148 = .ok (.aload_n 0, 1) := by decide +kernel
theorem dX8_init_149 : decode cX8_init 149 = .ok (.new 72, 3) := by decide +kernel
theorem dX8_init_152 : decode cX8_init 152 = .ok (.dup, 1) := by decide +kernel
theorem dX8_init_153 : decode cX8_init 153 = .ok (.invokespecial 74, 3) := by decide +kernel
theorem dX8_init_156 : decode cX8_init 156 = .ok (.putfield 75, 3) := by decide +kernel
theorem dX8_init_159 : decode cX8_init 159 = .ok (.return_, 1) := by decide +kernel
theorem dX8_story_0 : decode cX8_story 0 = .ok (.iload_n 1, 1) := by decide +kernel
theorem dX8_story_1 : decode cX8_story 1 = .ok (.bipush 6, 2) := by decide +kernel
theorem dX8_story_3 : decode cX8_story 3 = .ok (.invokestatic 79, 3) := by decide +kernel
theorem dX8_story_6 : decode cX8_story 6 = .ok (.ifCond .eq 21, 3) := by decide +kernel
theorem dX8_story_9 : decode cX8_story 9 = .ok (.iload_n 2, 1) := by decide +kernel
theorem dX8_story_10 : decode cX8_story 10 = .ok (.bipush 10, 2) := by decide +kernel
theorem dX8_story_12 : decode cX8_story 12 = .ok (.invokestatic 79, 3) := by decide +kernel
theorem dX8_story_15 : decode cX8_story 15 = .ok (.ifCond .eq 12, 3) := by decide +kernel
theorem dX8_story_18 : decode cX8_story 18 = .ok (.iload_n 3, 1) := by decide +kernel
theorem dX8_story_19 : decode cX8_story 19 = .ok (.bipush 10, 2) := by decide +kernel
theorem dX8_story_21 : decode cX8_story 21 = .ok (.invokestatic 79, 3) := by decide +kernel
theorem dX8_story_24 : decode cX8_story 24 = .ok (.ifCond .ne 6, 3) := by decide +kernel
theorem dX8_story_27 : decode cX8_story 27 = .ok (.bipush (-2), 2) := by decide +kernel
theorem dX8_story_29 : decode cX8_story 29 = .ok (.ireturn, 1) := by decide +kernel
theorem dX8_story_30 : decode cX8_story 30 = .ok (.aload_n 0, 1) := by decide +kernel
theorem dX8_story_31 : decode cX8_story 31 = .ok (.getfield 12, 3) := by decide +kernel
theorem dX8_story_34 : decode cX8_story 34 = .ok (.iload_n 1, 1) := by decide +kernel
theorem dX8_story_35 : decode cX8_story 35 = .ok (.iload_n 2, 1) := by decide +kernel
theorem dX8_story_36 : decode cX8_story 36 = .ok (.iload_n 3, 1) := by decide +kernel
theorem dX8_story_37 : decode cX8_story 37 = .ok (.invokevirtual 83, 3) := by decide +kernel
theorem dX8_story_40 : decode cX8_story 40 = .ok (.ireturn, 1) := by decide +kernel
theorem dX8_twin_0 : decode cX8_twin 0 = .ok (.aload_n 0, 1) := by decide +kernel
theorem dX8_twin_1 : decode cX8_twin 1 = .ok (.getfield 12, 3) := by decide +kernel
theorem dX8_twin_4 : decode cX8_twin 4 = .ok (.iload_n 1, 1) := by decide +kernel
theorem dX8_twin_5 : decode cX8_twin 5 = .ok (.invokevirtual 86, 3) := by decide +kernel
theorem dX8_twin_8 : decode cX8_twin 8 = .ok (.ifCond .eq 19, 3) := by decide +kernel
theorem dX8_twin_11 : decode cX8_twin 11 = .ok (.aload_n 0, 1) := by decide +kernel
theorem dX8_twin_12 : decode cX8_twin 12 = .ok (.getfield 12, 3) := by decide +kernel
theorem dX8_twin_15 : decode cX8_twin 15 = .ok (.iload_n 2, 1) := by decide +kernel
theorem dX8_twin_16 : decode cX8_twin 16 = .ok (.invokevirtual 86, 3) := by decide +kernel
theorem dX8_twin_19 : decode cX8_twin 19 = .ok (.ifCond .eq 8, 3) := by decide +kernel
theorem dX8_twin_22 : decode cX8_twin 22 = .ok (.iload_n 1, 1) := by decide +kernel
theorem dX8_twin_23 : decode cX8_twin 23 = .ok (.iload_n 2, 1) := by decide +kernel
theorem dX8_twin_24 : decode cX8_twin 24 = .ok (.if_icmp .ne 6, 3) := by decide +kernel
theorem dX8_twin_27 : decode cX8_twin 27 = .ok (.bipush (-2), 2) := by decide +kernel
theorem dX8_twin_29 : decode cX8_twin 29 = .ok (.ireturn, 1) := by decide +kernel
theorem dX8_twin_30 : decode cX8_twin 30 = .ok (.aload_n 0, 1) := by decide +kernel
theorem dX8_twin_31 : decode cX8_twin 31 = .ok (.getfield 12, 3) := by decide +kernel
theorem dX8_twin_34 : decode cX8_twin 34 = .ok (.iload_n 1, 1) := by decide +kernel
theorem dX8_twin_35 : decode cX8_twin 35 = .ok (.iload_n 2, 1) := by decide +kernel
theorem dX8_twin_36 : decode cX8_twin 36 = .ok (.invokevirtual 90, 3) := by decide +kernel
theorem dX8_twin_39 : decode cX8_twin 39 = .ok (.iconst 1, 1) := by decide +kernel
theorem dX8_twin_40 : decode cX8_twin 40 = .ok (.ireturn, 1) := by decide +kernel
theorem dX8_person_0 : decode cX8_person 0 = .ok (.aload_n 0, 1) := by decide +kernel
theorem dX8_person_1 : decode cX8_person 1 = .ok (.getfield 53, 3) := by decide +kernel
theorem dX8_person_4 : decode cX8_person 4 = .ok (.iload_n 1, 1) := by decide +kernel
theorem dX8_person_5 : decode cX8_person 5 = .ok (.iload_n 2, 1) := by decide +kernel
theorem dX8_person_6 : decode cX8_person 6 = .ok (.invokevirtual 94, 3) := by decide +kernel
theorem dX8_person_9 : decode cX8_person 9 = .ok (.ireturn, 1) := by decide +kernel
theorem dX8_set_0 : decode cX8_set 0 = .ok (.aload_n 0, 1) := by decide +kernel
theorem dX8_set_1 : decode cX8_set 1 = .ok (.getfield 53, 3) := by decide +kernel
theorem dX8_set_4 : decode cX8_set 4 = .ok (.iload_n 2, 1) := by decide +kernel
theorem dX8_set_5 : decode cX8_set 5 = .ok (.invokevirtual 98, 3) := by decide +kernel
theorem dX8_set_8 : decode cX8_set 8 = .ok (.ifCond .ne 6, 3) := by decide +kernel
theorem dX8_set_11 : decode cX8_set 11 = .ok (.bipush (-2), 2) := by decide +kernel
theorem dX8_set_13 : decode cX8_set 13 = .ok (.ireturn, 1) := by decide +kernel
theorem dX8_set_14 : decode cX8_set 14 = .ok (.iload_n 1, 1) := by decide +kernel
theorem dX8_set_15 : decode cX8_set 15 = .ok (.tableswitch 105 0 2 #[25, 50, 77], 25) := by decide +kernel
theorem dX8_set_40 : decode cX8_set 40 = .ok (.iload_n 3, 1) := by decide +kernel
theorem dX8_set_41 : decode cX8_set 41 = .ok (.invokestatic 99, 3) := by decide +kernel
theorem dX8_set_44 : decode cX8_set 44 = .ok (.ifCond .eq 18, 3) := by decide +kernel
theorem dX8_set_47 : decode cX8_set 47 = .ok (.aload_n 0, 1) := by decide +kernel
theorem dX8_set_48 : decode cX8_set 48 = .ok (.getfield 53, 3) := by decide +kernel
theorem dX8_set_51 : decode cX8_set 51 = .ok (.getfield 102, 3) := by decide +kernel
theorem dX8_set_54 : decode cX8_set 54 = .ok (.iload_n 2, 1) := by decide +kernel
theorem dX8_set_55 : decode cX8_set 55 = .ok (.iload_n 3, 1) := by decide +kernel
theorem dX8_set_56 : decode cX8_set 56 = .ok (.invokestatic 106, 3) := by decide +kernel
theorem dX8_set_59 : decode cX8_set 59 = .ok (.goto 5, 3) := by decide +kernel
theorem dX8_set_62 : decode cX8_set 62 = .ok (.bipush (-2), 2) := by decide +kernel
theorem dX8_set_64 : decode cX8_set 64 = .ok (.ireturn, 1) := by decide +kernel
theorem dX8_set_65 : decode cX8_set 65 = .ok (.iload_n 3, 1) := by decide +kernel
theorem dX8_set_66 : decode cX8_set 66 = .ok (.bipush 100, 2) := by decide +kernel
theorem dX8_set_68 : decode cX8_set 68 = .ok (.invokestatic 79, 3) := by decide +kernel
theorem dX8_set_71 : decode cX8_set 71 = .ok (.ifCond .eq 18, 3) := by decide +kernel
theorem dX8_set_74 : decode cX8_set 74 = .ok (.aload_n 0, 1) := by decide +kernel
theorem dX8_set_75 : decode cX8_set 75 = .ok (.getfield 53, 3) := by decide +kernel
theorem dX8_set_78 : decode cX8_set 78 = .ok (.getfield 110, 3) := by decide +kernel
theorem dX8_set_81 : decode cX8_set 81 = .ok (.iload_n 2, 1) := by decide +kernel
theorem dX8_set_82 : decode cX8_set 82 = .ok (.iload_n 3, 1) := by decide +kernel
theorem dX8_set_83 : decode cX8_set 83 = .ok (.invokestatic 106, 3) := by decide +kernel
theorem dX8_set_86 : decode cX8_set 86 = .ok (.goto 5, 3) := by decide +kernel
theorem dX8_set_89 : decode cX8_set 89 = .ok (.bipush (-2), 2) := by decide +kernel
theorem dX8_set_91 : decode cX8_set 91 = .ok (.ireturn, 1) := by decide +kernel
theorem dX8_set_92 : decode cX8_set 92 = .ok (.iload_n 3, 1) := by decide +kernel
theorem dX8_set_93 : decode cX8_set 93 = .ok (.sipush 256, 3) := by decide +kernel
theorem dX8_set_96 : decode cX8_set 96 = .ok (.invokestatic 79, 3) := by decide +kernel
theorem dX8_set_99 : decode cX8_set 99 = .ok (.ifCond .eq 18, 3) := by decide +kernel
theorem dX8_set_102 : decode cX8_set 102 = .ok (.aload_n 0, 1) := by decide +kernel
theorem dX8_set_103 : decode cX8_set 103 = .ok (.getfield 53, 3) := by decide +kernel
theorem dX8_set_106 : decode cX8_set 106 = .ok (.getfield 113, 3) := by decide +kernel
theorem dX8_set_109 : decode cX8_set 109 = .ok (.iload_n 2, 1) := by decide +kernel
theorem dX8_set_110 : decode cX8_set 110 = .ok (.iload_n 3, 1) := by decide +kernel
theorem dX8_set_111 : decode cX8_set 111 = .ok (.invokestatic 106, 3) := by decide +kernel
theorem dX8_set_114 : decode cX8_set 114 = .ok (.goto 5, 3) := by decide +kernel
theorem dX8_set_117 : decode cX8_set 117 = .ok (.bipush (-2), 2) := by decide +kernel
theorem dX8_set_119 : decode cX8_set 119 = .ok (.ireturn, 1) := by decide +kernel
theorem dX8_set_120 : decode cX8_set 120 = .ok (.bipush (-2), 2) := by decide +kernel
theorem dX8_set_122 : decode cX8_set 122 = .ok (.ireturn, 1) := by decide +kernel
theorem dX8_hears_0 : decode cX8_hears 0 = .ok (.aload_n 0, 1) := by decide +kernel
theorem dX8_hears_1 : decode cX8_hears 1 = .ok (.getfield 53, 3) := by decide +kernel
theorem dX8_hears_4 : decode cX8_hears 4 = .ok (.iload_n 1, 1) := by decide +kernel
theorem dX8_hears_5 : decode cX8_hears 5 = .ok (.invokevirtual 98, 3) := by decide +kernel
theorem dX8_hears_8 : decode cX8_hears 8 = .ok (.ifCond .eq 22, 3) := by decide +kernel
theorem dX8_hears_11 : decode cX8_hears 11 = .ok (.aload_n 0, 1) := by decide +kernel
theorem dX8_hears_12 : decode cX8_hears 12 = .ok (.getfield 12, 3) := by decide +kernel
theorem dX8_hears_15 : decode cX8_hears 15 = .ok (.iload_n 2, 1) := by decide +kernel
theorem dX8_hears_16 : decode cX8_hears 16 = .ok (.invokevirtual 86, 3) := by decide +kernel
theorem dX8_hears_19 : decode cX8_hears 19 = .ok (.ifCond .eq 11, 3) := by decide +kernel
theorem dX8_hears_22 : decode cX8_hears 22 = .ok (.iload_n 3, 1) := by decide +kernel
theorem dX8_hears_23 : decode cX8_hears 23 = .ok (.iconst 2, 1) := by decide +kernel
theorem dX8_hears_24 : decode cX8_hears 24 = .ok (.invokestatic 79, 3) := by decide +kernel
theorem dX8_hears_27 : decode cX8_hears 27 = .ok (.ifCond .ne 6, 3) := by decide +kernel
theorem dX8_hears_30 : decode cX8_hears 30 = .ok (.bipush (-2), 2) := by decide +kernel
theorem dX8_hears_32 : decode cX8_hears 32 = .ok (.ireturn, 1) := by decide +kernel
theorem dX8_hears_33 : decode cX8_hears 33 = .ok (.aload_n 0, 1) := by decide +kernel
theorem dX8_hears_34 : decode cX8_hears 34 = .ok (.getfield 53, 3) := by decide +kernel
theorem dX8_hears_37 : decode cX8_hears 37 = .ok (.getfield 116, 3) := by decide +kernel
theorem dX8_hears_40 : decode cX8_hears 40 = .ok (.iload_n 1, 1) := by decide +kernel
theorem dX8_hears_41 : decode cX8_hears 41 = .ok (.iaload, 1) := by decide +kernel
theorem dX8_hears_42 : decode cX8_hears 42 = .ok (.iload_n 2, 1) := by decide +kernel
theorem dX8_hears_43 : decode cX8_hears 43 = .ok (.ishr, 1) := by decide +kernel
theorem dX8_hears_44 : decode cX8_hears 44 = .ok (.iconst 1, 1) := by decide +kernel
theorem dX8_hears_45 : decode cX8_hears 45 = .ok (.iand, 1) := by decide +kernel
theorem dX8_hears_46 : decode cX8_hears 46 = .ok (.istore 4, 2) := by decide +kernel
theorem dX8_hears_48 : decode cX8_hears 48 = .ok (.iload_n 3, 1) := by decide +kernel
theorem dX8_hears_49 : decode cX8_hears 49 = .ok (.iconst 1, 1) := by decide +kernel
theorem dX8_hears_50 : decode cX8_hears 50 = .ok (.if_icmp .ne 15, 3) := by decide +kernel
theorem dX8_hears_53 : decode cX8_hears 53 = .ok (.aload_n 0, 1) := by decide +kernel
theorem dX8_hears_54 : decode cX8_hears 54 = .ok (.getfield 53, 3) := by decide +kernel
theorem dX8_hears_57 : decode cX8_hears 57 = .ok (.iload_n 1, 1) := by decide +kernel
theorem dX8_hears_58 : decode cX8_hears 58 = .ok (.iload_n 2, 1) := by decide +kernel
theorem dX8_hears_59 : decode cX8_hears 59 = .ok (.invokevirtual 119, 3) := by decide +kernel
theorem dX8_hears_62 : decode cX8_hears 62 = .ok (.goto 12, 3) := by decide +kernel
theorem dX8_hears_65 : decode cX8_hears 65 = .ok (.aload_n 0, 1) := by decide +kernel
theorem dX8_hears_66 : decode cX8_hears 66 = .ok (.getfield 53, 3) := by decide +kernel
theorem dX8_hears_69 : decode cX8_hears 69 = .ok (.iload_n 1, 1) := by decide +kernel
theorem dX8_hears_70 : decode cX8_hears 70 = .ok (.iload_n 2, 1) := by decide +kernel
theorem dX8_hears_71 : decode cX8_hears 71 = .ok (.invokevirtual 122, 3) := by decide +kernel
theorem dX8_hears_74 : decode cX8_hears 74 = .ok (.iload 4, 2) := by decide +kernel
theorem dX8_hears_76 : decode cX8_hears 76 = .ok (.ireturn, 1) := by decide +kernel
theorem dX8_told_0 : decode cX8_told 0 = .ok (.aload_n 0, 1) := by decide +kernel
theorem dX8_told_1 : decode cX8_told 1 = .ok (.getfield 12, 3) := by decide +kernel
theorem dX8_told_4 : decode cX8_told 4 = .ok (.iload_n 1, 1) := by decide +kernel
theorem dX8_told_5 : decode cX8_told 5 = .ok (.invokevirtual 86, 3) := by decide +kernel
theorem dX8_told_8 : decode cX8_told 8 = .ok (.ifCond .eq 12, 3) := by decide +kernel
theorem dX8_told_11 : decode cX8_told 11 = .ok (.iload_n 3, 1) := by decide +kernel
theorem dX8_told_12 : decode cX8_told 12 = .ok (.bipush 100, 2) := by decide +kernel
theorem dX8_told_14 : decode cX8_told 14 = .ok (.invokestatic 79, 3) := by decide +kernel
theorem dX8_told_17 : decode cX8_told 17 = .ok (.ifCond .ne 6, 3) := by decide +kernel
theorem dX8_told_20 : decode cX8_told 20 = .ok (.bipush (-2), 2) := by decide +kernel
theorem dX8_told_22 : decode cX8_told 22 = .ok (.ireturn, 1) := by decide +kernel
theorem dX8_told_23 : decode cX8_told 23 = .ok (.iload_n 2, 1) := by decide +kernel
theorem dX8_told_24 : decode cX8_told 24 = .ok (.tableswitch 99 0 5 #[40, 50, 60, 70, 80, 89], 40) := by decide +kernel
theorem dX8_told_64 : decode cX8_told 64 = .ok (.aload_n 0, 1) := by decide +kernel
theorem dX8_told_65 : decode cX8_told 65 = .ok (.getfield 12, 3) := by decide +kernel
theorem dX8_told_68 : decode cX8_told 68 = .ok (.getfield 125, 3) := by decide +kernel
theorem dX8_told_71 : decode cX8_told 71 = .ok (.iload_n 1, 1) := by decide +kernel
theorem dX8_told_72 : decode cX8_told 72 = .ok (.iaload, 1) := by decide +kernel
theorem dX8_told_73 : decode cX8_told 73 = .ok (.ireturn, 1) := by decide +kernel
theorem dX8_told_74 : decode cX8_told 74 = .ok (.aload_n 0, 1) := by decide +kernel
theorem dX8_told_75 : decode cX8_told 75 = .ok (.getfield 12, 3) := by decide +kernel
theorem dX8_told_78 : decode cX8_told 78 = .ok (.getfield 128, 3) := by decide +kernel
theorem dX8_told_81 : decode cX8_told 81 = .ok (.iload_n 1, 1) := by decide +kernel
theorem dX8_told_82 : decode cX8_told 82 = .ok (.iaload, 1) := by decide +kernel
theorem dX8_told_83 : decode cX8_told 83 = .ok (.ireturn, 1) := by decide +kernel
theorem dX8_told_84 : decode cX8_told 84 = .ok (.aload_n 0, 1) := by decide +kernel
theorem dX8_told_85 : decode cX8_told 85 = .ok (.getfield 12, 3) := by decide +kernel
theorem dX8_told_88 : decode cX8_told 88 = .ok (.getfield 131, 3) := by decide +kernel
theorem dX8_told_91 : decode cX8_told 91 = .ok (.iload_n 1, 1) := by decide +kernel
theorem dX8_told_92 : decode cX8_told 92 = .ok (.iaload, 1) := by decide +kernel
theorem dX8_told_93 : decode cX8_told 93 = .ok (.ireturn, 1) := by decide +kernel
theorem dX8_told_94 : decode cX8_told 94 = .ok (.aload_n 0, 1) := by decide +kernel
theorem dX8_told_95 : decode cX8_told 95 = .ok (.getfield 12, 3) := by decide +kernel
theorem dX8_told_98 : decode cX8_told 98 = .ok (.getfield 134, 3) := by decide +kernel
theorem dX8_told_101 : decode cX8_told 101 = .ok (.iload_n 1, 1) := by decide +kernel
theorem dX8_told_102 : decode cX8_told 102 = .ok (.iaload, 1) := by decide +kernel
theorem dX8_told_103 : decode cX8_told 103 = .ok (.ireturn, 1) := by decide +kernel
theorem dX8_told_104 : decode cX8_told 104 = .ok (.aload_n 0, 1) := by decide +kernel
theorem dX8_told_105 : decode cX8_told 105 = .ok (.getfield 12, 3) := by decide +kernel
theorem dX8_told_108 : decode cX8_told 108 = .ok (.iload_n 1, 1) := by decide +kernel
theorem dX8_told_109 : decode cX8_told 109 = .ok (.invokevirtual 137, 3) := by decide +kernel
theorem dX8_told_112 : decode cX8_told 112 = .ok (.ireturn, 1) := by decide +kernel
theorem dX8_told_113 : decode cX8_told 113 = .ok (.aload_n 0, 1) := by decide +kernel
theorem dX8_told_114 : decode cX8_told 114 = .ok (.getfield 12, 3) := by decide +kernel
theorem dX8_told_117 : decode cX8_told 117 = .ok (.iload_n 1, 1) := by decide +kernel
theorem dX8_told_118 : decode cX8_told 118 = .ok (.iload_n 3, 1) := by decide +kernel
theorem dX8_told_119 : decode cX8_told 119 = .ok (.invokevirtual 141, 3) := by decide +kernel
theorem dX8_told_122 : decode cX8_told 122 = .ok (.ireturn, 1) := by decide +kernel
theorem dX8_told_123 : decode cX8_told 123 = .ok (.bipush (-2), 2) := by decide +kernel
theorem dX8_told_125 : decode cX8_told 125 = .ok (.ireturn, 1) := by decide +kernel
theorem dX8_one_0 : decode cX8_one 0 = .ok (.aload_n 0, 1) := by decide +kernel
theorem dX8_one_1 : decode cX8_one 1 = .ok (.getfield 53, 3) := by decide +kernel
theorem dX8_one_4 : decode cX8_one 4 = .ok (.iload_n 1, 1) := by decide +kernel
theorem dX8_one_5 : decode cX8_one 5 = .ok (.invokevirtual 98, 3) := by decide +kernel
theorem dX8_one_8 : decode cX8_one 8 = .ok (.ifCond .ne 6, 3) := by decide +kernel
theorem dX8_one_11 : decode cX8_one 11 = .ok (.bipush (-2), 2) := by decide +kernel
theorem dX8_one_13 : decode cX8_one 13 = .ok (.ireturn, 1) := by decide +kernel
theorem dX8_one_14 : decode cX8_one 14 = .ok (.iload_n 2, 1) := by decide +kernel
theorem dX8_one_15 : decode cX8_one 15 = .ok (.tableswitch 82 0 4 #[33, 43, 53, 63, 73], 33) := by decide +kernel
theorem dX8_one_48 : decode cX8_one 48 = .ok (.aload_n 0, 1) := by decide +kernel
theorem dX8_one_49 : decode cX8_one 49 = .ok (.getfield 53, 3) := by decide +kernel
theorem dX8_one_52 : decode cX8_one 52 = .ok (.getfield 102, 3) := by decide +kernel
theorem dX8_one_55 : decode cX8_one 55 = .ok (.iload_n 1, 1) := by decide +kernel
theorem dX8_one_56 : decode cX8_one 56 = .ok (.iaload, 1) := by decide +kernel
theorem dX8_one_57 : decode cX8_one 57 = .ok (.ireturn, 1) := by decide +kernel
theorem dX8_one_58 : decode cX8_one 58 = .ok (.aload_n 0, 1) := by decide +kernel
theorem dX8_one_59 : decode cX8_one 59 = .ok (.getfield 53, 3) := by decide +kernel
theorem dX8_one_62 : decode cX8_one 62 = .ok (.getfield 110, 3) := by decide +kernel
theorem dX8_one_65 : decode cX8_one 65 = .ok (.iload_n 1, 1) := by decide +kernel
theorem dX8_one_66 : decode cX8_one 66 = .ok (.iaload, 1) := by decide +kernel
theorem dX8_one_67 : decode cX8_one 67 = .ok (.ireturn, 1) := by decide +kernel
theorem dX8_one_68 : decode cX8_one 68 = .ok (.aload_n 0, 1) := by decide +kernel
theorem dX8_one_69 : decode cX8_one 69 = .ok (.getfield 53, 3) := by decide +kernel
theorem dX8_one_72 : decode cX8_one 72 = .ok (.getfield 113, 3) := by decide +kernel
theorem dX8_one_75 : decode cX8_one 75 = .ok (.iload_n 1, 1) := by decide +kernel
theorem dX8_one_76 : decode cX8_one 76 = .ok (.iaload, 1) := by decide +kernel
theorem dX8_one_77 : decode cX8_one 77 = .ok (.ireturn, 1) := by decide +kernel
theorem dX8_one_78 : decode cX8_one 78 = .ok (.aload_n 0, 1) := by decide +kernel
theorem dX8_one_79 : decode cX8_one 79 = .ok (.getfield 53, 3) := by decide +kernel
theorem dX8_one_82 : decode cX8_one 82 = .ok (.getfield 116, 3) := by decide +kernel
theorem dX8_one_85 : decode cX8_one 85 = .ok (.iload_n 1, 1) := by decide +kernel
theorem dX8_one_86 : decode cX8_one 86 = .ok (.iaload, 1) := by decide +kernel
theorem dX8_one_87 : decode cX8_one 87 = .ok (.ireturn, 1) := by decide +kernel
theorem dX8_one_88 : decode cX8_one 88 = .ok (.aload_n 0, 1) := by decide +kernel
theorem dX8_one_89 : decode cX8_one 89 = .ok (.getfield 53, 3) := by decide +kernel
theorem dX8_one_92 : decode cX8_one 92 = .ok (.iload_n 1, 1) := by decide +kernel
theorem dX8_one_93 : decode cX8_one 93 = .ok (.invokevirtual 144, 3) := by decide +kernel
theorem dX8_one_96 : decode cX8_one 96 = .ok (.ireturn, 1) := by decide +kernel
theorem dX8_one_97 : decode cX8_one 97 = .ok (.bipush (-2), 2) := by decide +kernel
theorem dX8_one_99 : decode cX8_one 99 = .ok (.ireturn, 1) := by decide +kernel
theorem dX8_feed_0 : decode cX8_feed 0 = .ok (.iload_n 1, 1) := by decide +kernel
theorem dX8_feed_1 : decode cX8_feed 1 = .ok (.sipush 256, 3) := by decide +kernel
theorem dX8_feed_4 : decode cX8_feed 4 = .ok (.invokestatic 79, 3) := by decide +kernel
theorem dX8_feed_7 : decode cX8_feed 7 = .ok (.ifCond .eq 14, 3) := by decide +kernel
theorem dX8_feed_10 : decode cX8_feed 10 = .ok (.aload_n 0, 1) := by decide +kernel
theorem dX8_feed_11 : decode cX8_feed 11 = .ok (.getfield 26, 3) := by decide +kernel
theorem dX8_feed_14 : decode cX8_feed 14 = .ok (.iload_n 1, 1) := by decide +kernel
theorem dX8_feed_15 : decode cX8_feed 15 = .ok (.invokevirtual 147, 3) := by decide +kernel
theorem dX8_feed_18 : decode cX8_feed 18 = .ok (.goto 5, 3) := by decide +kernel
theorem dX8_feed_21 : decode cX8_feed 21 = .ok (.bipush (-2), 2) := by decide +kernel
theorem dX8_feed_23 : decode cX8_feed 23 = .ok (.ireturn, 1) := by decide +kernel
theorem dX8_text_0 : decode cX8_text 0 = .ok (.aload_n 0, 1) := by decide +kernel
theorem dX8_text_1 : decode cX8_text 1 = .ok (.getfield 19, 3) := by decide +kernel
theorem dX8_text_4 : decode cX8_text 4 = .ok (.invokevirtual 149, 3) := by decide +kernel
theorem dX8_text_7 : decode cX8_text 7 = .ok (.ifCond .eq 6, 3) := by decide +kernel
theorem dX8_text_10 : decode cX8_text 10 = .ok (.bipush (-4), 2) := by decide +kernel
theorem dX8_text_12 : decode cX8_text 12 = .ok (.ireturn, 1) := by decide +kernel
theorem dX8_text_13 : decode cX8_text 13 = .ok (.aload_n 0, 1) := by decide +kernel
theorem dX8_text_14 : decode cX8_text 14 = .ok (.getfield 26, 3) := by decide +kernel
theorem dX8_text_17 : decode cX8_text 17 = .ok (.invokevirtual 33, 3) := by decide +kernel
theorem dX8_text_20 : decode cX8_text 20 = .ok (.ifCond .eq 20, 3) := by decide +kernel
theorem dX8_text_23 : decode cX8_text 23 = .ok (.aload_n 0, 1) := by decide +kernel
theorem dX8_text_24 : decode cX8_text 24 = .ok (.getfield 19, 3) := by decide +kernel
theorem dX8_text_27 : decode cX8_text 27 = .ok (.aload_n 0, 1) := by decide +kernel
theorem dX8_text_28 : decode cX8_text 28 = .ok (.getfield 26, 3) := by decide +kernel
theorem dX8_text_31 : decode cX8_text 31 = .ok (.invokevirtual 37, 3) := by decide +kernel
theorem dX8_text_34 : decode cX8_text 34 = .ok (.invokevirtual 41, 3) := by decide +kernel
theorem dX8_text_37 : decode cX8_text 37 = .ok (.goto 13, 3) := by decide +kernel
theorem dX8_text_40 : decode cX8_text 40 = .ok (.bipush (-100), 2) := by decide +kernel
theorem dX8_text_42 : decode cX8_text 42 = .ok (.aload_n 0, 1) := by decide +kernel
theorem dX8_text_43 : decode cX8_text 43 = .ok (.getfield 26, 3) := by decide +kernel
theorem dX8_text_46 : decode cX8_text 46 = .ok (.invokevirtual 152, 3) := by decide +kernel
theorem dX8_text_49 : decode cX8_text 49 = .ok (.isub, 1) := by decide +kernel
theorem dX8_text_50 : decode cX8_text 50 = .ok (.istore_n 1, 1) := by decide +kernel
theorem dX8_text_51 : decode cX8_text 51 = .ok (.aload_n 0, 1) := by decide +kernel
theorem dX8_text_52 : decode cX8_text 52 = .ok (.getfield 26, 3) := by decide +kernel
theorem dX8_text_55 : decode cX8_text 55 = .ok (.invokevirtual 45, 3) := by decide +kernel
theorem dX8_text_58 : decode cX8_text 58 = .ok (.iload_n 1, 1) := by decide +kernel
theorem dX8_text_59 : decode cX8_text 59 = .ok (.ireturn, 1) := by decide +kernel
theorem dX8_force_0 : decode cX8_force 0 = .ok (.aload_n 0, 1) := by decide +kernel
theorem dX8_force_1 : decode cX8_force 1 = .ok (.getfield 19, 3) := by decide +kernel
theorem dX8_force_4 : decode cX8_force 4 = .ok (.iload_n 1, 1) := by decide +kernel
theorem dX8_force_5 : decode cX8_force 5 = .ok (.invokevirtual 156, 3) := by decide +kernel
theorem dX8_force_8 : decode cX8_force 8 = .ok (.ifCond .ne 6, 3) := by decide +kernel
theorem dX8_force_11 : decode cX8_force 11 = .ok (.bipush (-2), 2) := by decide +kernel
theorem dX8_force_13 : decode cX8_force 13 = .ok (.ireturn, 1) := by decide +kernel
theorem dX8_force_14 : decode cX8_force 14 = .ok (.aload_n 0, 1) := by decide +kernel
theorem dX8_force_15 : decode cX8_force 15 = .ok (.getfield 53, 3) := by decide +kernel
theorem dX8_force_18 : decode cX8_force 18 = .ok (.getfield 157, 3) := by decide +kernel
theorem dX8_force_21 : decode cX8_force 21 = .ok (.istore_n 2, 1) := by decide +kernel
theorem dX8_force_22 : decode cX8_force 22 = .ok (.aload_n 0, 1) := by decide +kernel
theorem dX8_force_23 : decode cX8_force 23 = .ok (.getfield 53, 3) := by decide +kernel
theorem dX8_force_26 : decode cX8_force 26 = .ok (.iload_n 1, 1) := by decide +kernel
theorem dX8_force_27 : decode cX8_force 27 = .ok (.putfield 157, 3) := by decide +kernel
theorem dX8_force_30 : decode cX8_force 30 = .ok (.iload_n 2, 1) := by decide +kernel
theorem dX8_force_31 : decode cX8_force 31 = .ok (.ireturn, 1) := by decide +kernel
theorem dX8_may_0 : decode cX8_may 0 = .ok (.iload_n 1, 1) := by decide +kernel
theorem dX8_may_1 : decode cX8_may 1 = .ok (.invokestatic 99, 3) := by decide +kernel
theorem dX8_may_4 : decode cX8_may 4 = .ok (.ifCond .eq 14, 3) := by decide +kernel
theorem dX8_may_7 : decode cX8_may 7 = .ok (.aload_n 0, 1) := by decide +kernel
theorem dX8_may_8 : decode cX8_may 8 = .ok (.getfield 53, 3) := by decide +kernel
theorem dX8_may_11 : decode cX8_may 11 = .ok (.iload_n 1, 1) := by decide +kernel
theorem dX8_may_12 : decode cX8_may 12 = .ok (.invokevirtual 161, 3) := by decide +kernel
theorem dX8_may_15 : decode cX8_may 15 = .ok (.goto 5, 3) := by decide +kernel
theorem dX8_may_18 : decode cX8_may 18 = .ok (.bipush (-2), 2) := by decide +kernel
theorem dX8_may_20 : decode cX8_may 20 = .ok (.ireturn, 1) := by decide +kernel
theorem dX8_by_0 : decode cX8_by 0 = .ok (.iload_n 1, 1) := by decide +kernel
theorem dX8_by_1 : decode cX8_by 1 = .ok (.invokestatic 99, 3) := by decide +kernel
theorem dX8_by_4 : decode cX8_by 4 = .ok (.ifCond .eq 26, 3) := by decide +kernel
theorem dX8_by_7 : decode cX8_by 7 = .ok (.aload_n 0, 1) := by decide +kernel
theorem dX8_by_8 : decode cX8_by 8 = .ok (.getfield 12, 3) := by decide +kernel
theorem dX8_by_11 : decode cX8_by 11 = .ok (.iload_n 2, 1) := by decide +kernel
theorem dX8_by_12 : decode cX8_by 12 = .ok (.invokevirtual 86, 3) := by decide +kernel
theorem dX8_by_15 : decode cX8_by 15 = .ok (.ifCond .eq 15, 3) := by decide +kernel
theorem dX8_by_18 : decode cX8_by 18 = .ok (.aload_n 0, 1) := by decide +kernel
theorem dX8_by_19 : decode cX8_by 19 = .ok (.getfield 53, 3) := by decide +kernel
theorem dX8_by_22 : decode cX8_by 22 = .ok (.iload_n 1, 1) := by decide +kernel
theorem dX8_by_23 : decode cX8_by 23 = .ok (.iload_n 2, 1) := by decide +kernel
theorem dX8_by_24 : decode cX8_by 24 = .ok (.invokevirtual 164, 3) := by decide +kernel
theorem dX8_by_27 : decode cX8_by 27 = .ok (.goto 5, 3) := by decide +kernel
theorem dX8_by_30 : decode cX8_by 30 = .ok (.bipush (-2), 2) := by decide +kernel
theorem dX8_by_32 : decode cX8_by 32 = .ok (.ireturn, 1) := by decide +kernel
theorem dX8_worth_0 : decode cX8_worth 0 = .ok (.iload_n 1, 1) := by decide +kernel
theorem dX8_worth_1 : decode cX8_worth 1 = .ok (.invokestatic 99, 3) := by decide +kernel
theorem dX8_worth_4 : decode cX8_worth 4 = .ok (.ifCond .eq 26, 3) := by decide +kernel
theorem dX8_worth_7 : decode cX8_worth 7 = .ok (.aload_n 0, 1) := by decide +kernel
theorem dX8_worth_8 : decode cX8_worth 8 = .ok (.getfield 12, 3) := by decide +kernel
theorem dX8_worth_11 : decode cX8_worth 11 = .ok (.iload_n 2, 1) := by decide +kernel
theorem dX8_worth_12 : decode cX8_worth 12 = .ok (.invokevirtual 86, 3) := by decide +kernel
theorem dX8_worth_15 : decode cX8_worth 15 = .ok (.ifCond .eq 15, 3) := by decide +kernel
theorem dX8_worth_18 : decode cX8_worth 18 = .ok (.aload_n 0, 1) := by decide +kernel
theorem dX8_worth_19 : decode cX8_worth 19 = .ok (.getfield 53, 3) := by decide +kernel
theorem dX8_worth_22 : decode cX8_worth 22 = .ok (.iload_n 1, 1) := by decide +kernel
theorem dX8_worth_23 : decode cX8_worth 23 = .ok (.iload_n 2, 1) := by decide +kernel
theorem dX8_worth_24 : decode cX8_worth 24 = .ok (.invokevirtual 167, 3) := by decide +kernel
theorem dX8_worth_27 : decode cX8_worth 27 = .ok (.goto 6, 3) := by decide +kernel
theorem dX8_worth_30 : decode cX8_worth 30 = .ok (.ldc2_w 171, 3) := by decide +kernel
theorem dX8_worth_33 : decode cX8_worth 33 = .ok (.lreturn, 1) := by decide +kernel
theorem dX8_most_0 : decode cX8_most 0 = .ok (.iload_n 1, 1) := by decide +kernel
theorem dX8_most_1 : decode cX8_most 1 = .ok (.invokestatic 99, 3) := by decide +kernel
theorem dX8_most_4 : decode cX8_most 4 = .ok (.ifCond .eq 11, 3) := by decide +kernel
theorem dX8_most_7 : decode cX8_most 7 = .ok (.iload_n 2, 1) := by decide +kernel
theorem dX8_most_8 : decode cX8_most 8 = .ok (.iconst 2, 1) := by decide +kernel
theorem dX8_most_9 : decode cX8_most 9 = .ok (.invokestatic 79, 3) := by decide +kernel
theorem dX8_most_12 : decode cX8_most 12 = .ok (.ifCond .ne 7, 3) := by decide +kernel
theorem dX8_most_15 : decode cX8_most 15 = .ok (.ldc2_w 171, 3) := by decide +kernel
theorem dX8_most_18 : decode cX8_most 18 = .ok (.lreturn, 1) := by decide +kernel
theorem dX8_most_19 : decode cX8_most 19 = .ok (.aload_n 0, 1) := by decide +kernel
theorem dX8_most_20 : decode cX8_most 20 = .ok (.getfield 53, 3) := by decide +kernel
theorem dX8_most_23 : decode cX8_most 23 = .ok (.iload_n 1, 1) := by decide +kernel
theorem dX8_most_24 : decode cX8_most 24 = .ok (.invokevirtual 173, 3) := by decide +kernel
theorem dX8_most_27 : decode cX8_most 27 = .ok (.istore_n 3, 1) := by decide +kernel
theorem dX8_most_28 : decode cX8_most 28 = .ok (.iload_n 3, 1) := by decide +kernel
theorem dX8_most_29 : decode cX8_most 29 = .ok (.iconst (-1), 1) := by decide +kernel
theorem dX8_most_30 : decode cX8_most 30 = .ok (.if_icmp .ne 7, 3) := by decide +kernel
theorem dX8_most_33 : decode cX8_most 33 = .ok (.ldc2_w 171, 3) := by decide +kernel
theorem dX8_most_36 : decode cX8_most 36 = .ok (.lreturn, 1) := by decide +kernel
theorem dX8_most_37 : decode cX8_most 37 = .ok (.iload_n 2, 1) := by decide +kernel
theorem dX8_most_38 : decode cX8_most 38 = .ok (.ifCond .ne 8, 3) := by decide +kernel
theorem dX8_most_41 : decode cX8_most 41 = .ok (.iload_n 3, 1) := by decide +kernel
theorem dX8_most_42 : decode cX8_most 42 = .ok (.i2l, 1) := by decide +kernel
theorem dX8_most_43 : decode cX8_most 43 = .ok (.goto 12, 3) := by decide +kernel
theorem dX8_most_46 : decode cX8_most 46 = .ok (.aload_n 0, 1) := by decide +kernel
theorem dX8_most_47 : decode cX8_most 47 = .ok (.getfield 53, 3) := by decide +kernel
theorem dX8_most_50 : decode cX8_most 50 = .ok (.iload_n 1, 1) := by decide +kernel
theorem dX8_most_51 : decode cX8_most 51 = .ok (.iload_n 3, 1) := by decide +kernel
theorem dX8_most_52 : decode cX8_most 52 = .ok (.invokevirtual 167, 3) := by decide +kernel
theorem dX8_most_55 : decode cX8_most 55 = .ok (.lreturn, 1) := by decide +kernel
theorem dX8_tell_0 : decode cX8_tell 0 = .ok (.iload_n 1, 1) := by decide +kernel
theorem dX8_tell_1 : decode cX8_tell 1 = .ok (.invokestatic 99, 3) := by decide +kernel
theorem dX8_tell_4 : decode cX8_tell 4 = .ok (.ifCond .eq 26, 3) := by decide +kernel
theorem dX8_tell_7 : decode cX8_tell 7 = .ok (.aload_n 0, 1) := by decide +kernel
theorem dX8_tell_8 : decode cX8_tell 8 = .ok (.getfield 12, 3) := by decide +kernel
theorem dX8_tell_11 : decode cX8_tell 11 = .ok (.iload_n 2, 1) := by decide +kernel
theorem dX8_tell_12 : decode cX8_tell 12 = .ok (.invokevirtual 86, 3) := by decide +kernel
theorem dX8_tell_15 : decode cX8_tell 15 = .ok (.ifCond .eq 15, 3) := by decide +kernel
theorem dX8_tell_18 : decode cX8_tell 18 = .ok (.aload_n 0, 1) := by decide +kernel
theorem dX8_tell_19 : decode cX8_tell 19 = .ok (.getfield 53, 3) := by decide +kernel
theorem dX8_tell_22 : decode cX8_tell 22 = .ok (.iload_n 1, 1) := by decide +kernel
theorem dX8_tell_23 : decode cX8_tell 23 = .ok (.iload_n 2, 1) := by decide +kernel
theorem dX8_tell_24 : decode cX8_tell 24 = .ok (.invokevirtual 176, 3) := by decide +kernel
theorem dX8_tell_27 : decode cX8_tell 27 = .ok (.goto 5, 3) := by decide +kernel
theorem dX8_tell_30 : decode cX8_tell 30 = .ok (.bipush (-2), 2) := by decide +kernel
theorem dX8_tell_32 : decode cX8_tell 32 = .ok (.ireturn, 1) := by decide +kernel
theorem dX8_pass_0 : decode cX8_pass 0 = .ok (.aload_n 0, 1) := by decide +kernel
theorem dX8_pass_1 : decode cX8_pass 1 = .ok (.getfield 53, 3) := by decide +kernel
theorem dX8_pass_4 : decode cX8_pass 4 = .ok (.invokevirtual 179, 3) := by decide +kernel
theorem dX8_pass_7 : decode cX8_pass 7 = .ok (.aload_n 0, 1) := by decide +kernel
theorem dX8_pass_8 : decode cX8_pass 8 = .ok (.getfield 53, 3) := by decide +kernel
theorem dX8_pass_11 : decode cX8_pass 11 = .ok (.getfield 182, 3) := by decide +kernel
theorem dX8_pass_14 : decode cX8_pass 14 = .ok (.ireturn, 1) := by decide +kernel
theorem dX8_goesOn_0 : decode cX8_goesOn 0 = .ok (.iload_n 1, 1) := by decide +kernel
theorem dX8_goesOn_1 : decode cX8_goesOn 1 = .ok (.invokestatic 99, 3) := by decide +kernel
theorem dX8_goesOn_4 : decode cX8_goesOn 4 = .ok (.ifCond .eq 11, 3) := by decide +kernel
theorem dX8_goesOn_7 : decode cX8_goesOn 7 = .ok (.iload_n 2, 1) := by decide +kernel
theorem dX8_goesOn_8 : decode cX8_goesOn 8 = .ok (.iconst 2, 1) := by decide +kernel
theorem dX8_goesOn_9 : decode cX8_goesOn 9 = .ok (.invokestatic 79, 3) := by decide +kernel
theorem dX8_goesOn_12 : decode cX8_goesOn 12 = .ok (.ifCond .ne 6, 3) := by decide +kernel
theorem dX8_goesOn_15 : decode cX8_goesOn 15 = .ok (.bipush (-2), 2) := by decide +kernel
theorem dX8_goesOn_17 : decode cX8_goesOn 17 = .ok (.ireturn, 1) := by decide +kernel
theorem dX8_goesOn_18 : decode cX8_goesOn 18 = .ok (.aload_n 0, 1) := by decide +kernel
theorem dX8_goesOn_19 : decode cX8_goesOn 19 = .ok (.getfield 53, 3) := by decide +kernel
theorem dX8_goesOn_22 : decode cX8_goesOn 22 = .ok (.iload_n 1, 1) := by decide +kernel
theorem dX8_goesOn_23 : decode cX8_goesOn 23 = .ok (.invokevirtual 185, 3) := by decide +kernel
theorem dX8_goesOn_26 : decode cX8_goesOn 26 = .ok (.istore_n 3, 1) := by decide +kernel
theorem dX8_goesOn_27 : decode cX8_goesOn 27 = .ok (.iconst 0, 1) := by decide +kernel
theorem dX8_goesOn_28 : decode cX8_goesOn 28 = .ok (.istore 4, 2) := by decide +kernel
theorem dX8_goesOn_30 : decode cX8_goesOn 30 = .ok (.iconst 1, 1) := by decide +kernel
theorem dX8_goesOn_31 : decode cX8_goesOn 31 = .ok (.istore 5, 2) := by decide +kernel
theorem dX8_goesOn_33 : decode cX8_goesOn 33 = .ok (.iload 5, 2) := by decide +kernel
theorem dX8_goesOn_35 : decode cX8_goesOn 35 = .ok (.sipush 256, 3) := by decide +kernel
theorem dX8_goesOn_38 : decode cX8_goesOn 38 = .ok (.if_icmp .ge 45, 3) := by decide +kernel
theorem dX8_goesOn_41 : decode cX8_goesOn 41 = .ok (.iload 5, 2) := by decide +kernel
theorem dX8_goesOn_43 : decode cX8_goesOn 43 = .ok (.iload_n 3, 1) := by decide +kernel
theorem dX8_goesOn_44 : decode cX8_goesOn 44 = .ok (.iconst (-1), 1) := by decide +kernel
theorem dX8_goesOn_45 : decode cX8_goesOn 45 = .ok (.ixor, 1) := by decide +kernel
theorem dX8_goesOn_46 : decode cX8_goesOn 46 = .ok (.iand, 1) := by decide +kernel
theorem dX8_goesOn_47 : decode cX8_goesOn 47 = .ok (.ifCond .ne 30, 3) := by decide +kernel
theorem dX8_goesOn_50 : decode cX8_goesOn 50 = .ok (.iload 5, 2) := by decide +kernel
theorem dX8_goesOn_52 : decode cX8_goesOn 52 = .ok (.invokestatic 188, 3) := by decide +kernel
theorem dX8_goesOn_55 : decode cX8_goesOn 55 = .ok (.iload 4, 2) := by decide +kernel
theorem dX8_goesOn_57 : decode cX8_goesOn 57 = .ok (.invokestatic 188, 3) := by decide +kernel
theorem dX8_goesOn_60 : decode cX8_goesOn 60 = .ok (.if_icmp .le 17, 3) := by decide +kernel
theorem dX8_goesOn_63 : decode cX8_goesOn 63 = .ok (.aload_n 0, 1) := by decide +kernel
theorem dX8_goesOn_64 : decode cX8_goesOn 64 = .ok (.iload_n 1, 1) := by decide +kernel
theorem dX8_goesOn_65 : decode cX8_goesOn 65 = .ok (.iload 5, 2) := by decide +kernel
theorem dX8_goesOn_67 : decode cX8_goesOn 67 = .ok (.invokevirtual 193, 3) := by decide +kernel
theorem dX8_goesOn_70 : decode cX8_goesOn 70 = .ok (.ifCond .eq 7, 3) := by decide +kernel
theorem dX8_goesOn_73 : decode cX8_goesOn 73 = .ok (.iload 5, 2) := by decide +kernel
theorem dX8_goesOn_75 : decode cX8_goesOn 75 = .ok (.istore 4, 2) := by decide +kernel
theorem dX8_goesOn_77 : decode cX8_goesOn 77 = .ok (.iinc 5 1, 3) := by decide +kernel
theorem dX8_goesOn_80 : decode cX8_goesOn 80 = .ok (.goto (-47), 3) := by decide +kernel
theorem dX8_goesOn_83 : decode cX8_goesOn 83 = .ok (.iload_n 2, 1) := by decide +kernel
theorem dX8_goesOn_84 : decode cX8_goesOn 84 = .ok (.ifCond .ne 11, 3) := by decide +kernel
theorem dX8_goesOn_87 : decode cX8_goesOn 87 = .ok (.iload 4, 2) := by decide +kernel
theorem dX8_goesOn_89 : decode cX8_goesOn 89 = .ok (.invokestatic 188, 3) := by decide +kernel
theorem dX8_goesOn_92 : decode cX8_goesOn 92 = .ok (.goto 5, 3) := by decide +kernel
theorem dX8_goesOn_95 : decode cX8_goesOn 95 = .ok (.iload 4, 2) := by decide +kernel
theorem dX8_goesOn_97 : decode cX8_goesOn 97 = .ok (.ireturn, 1) := by decide +kernel
theorem dX8_spread_0 : decode cX8_spread 0 = .ok (.iload_n 1, 1) := by decide +kernel
theorem dX8_spread_1 : decode cX8_spread 1 = .ok (.iconst 1, 1) := by decide +kernel
theorem dX8_spread_2 : decode cX8_spread 2 = .ok (.if_icmp .lt 24, 3) := by decide +kernel
theorem dX8_spread_5 : decode cX8_spread 5 = .ok (.iload_n 1, 1) := by decide +kernel
theorem dX8_spread_6 : decode cX8_spread 6 = .ok (.iconst 4, 1) := by decide +kernel
theorem dX8_spread_7 : decode cX8_spread 7 = .ok (.if_icmp .gt 19, 3) := by decide +kernel
theorem dX8_spread_10 : decode cX8_spread 10 = .ok (.iload_n 2, 1) := by decide +kernel
theorem dX8_spread_11 : decode cX8_spread 11 = .ok (.iconst (-1), 1) := by decide +kernel
theorem dX8_spread_12 : decode cX8_spread 12 = .ok (.if_icmp .eq 17, 3) := by decide +kernel
theorem dX8_spread_15 : decode cX8_spread 15 = .ok (.aload_n 0, 1) := by decide +kernel
theorem dX8_spread_16 : decode cX8_spread 16 = .ok (.getfield 53, 3) := by decide +kernel
theorem dX8_spread_19 : decode cX8_spread 19 = .ok (.iload_n 2, 1) := by decide +kernel
theorem dX8_spread_20 : decode cX8_spread 20 = .ok (.invokevirtual 98, 3) := by decide +kernel
theorem dX8_spread_23 : decode cX8_spread 23 = .ok (.ifCond .ne 6, 3) := by decide +kernel
theorem dX8_spread_26 : decode cX8_spread 26 = .ok (.bipush (-2), 2) := by decide +kernel
theorem dX8_spread_28 : decode cX8_spread 28 = .ok (.ireturn, 1) := by decide +kernel
theorem dX8_spread_29 : decode cX8_spread 29 = .ok (.aload_n 0, 1) := by decide +kernel
theorem dX8_spread_30 : decode cX8_spread 30 = .ok (.getfield 68, 3) := by decide +kernel
theorem dX8_spread_33 : decode cX8_spread 33 = .ok (.iload_n 1, 1) := by decide +kernel
theorem dX8_spread_34 : decode cX8_spread 34 = .ok (.invokevirtual 196, 3) := by decide +kernel
theorem dX8_spread_37 : decode cX8_spread 37 = .ok (.sipush 4096, 3) := by decide +kernel
theorem dX8_spread_40 : decode cX8_spread 40 = .ok (.if_icmp .le 6, 3) := by decide +kernel
theorem dX8_spread_43 : decode cX8_spread 43 = .ok (.bipush (-2), 2) := by decide +kernel
theorem dX8_spread_45 : decode cX8_spread 45 = .ok (.ireturn, 1) := by decide +kernel
theorem dX8_spread_46 : decode cX8_spread 46 = .ok (.aload_n 0, 1) := by decide +kernel
theorem dX8_spread_47 : decode cX8_spread 47 = .ok (.getfield 68, 3) := by decide +kernel
theorem dX8_spread_50 : decode cX8_spread 50 = .ok (.iload_n 1, 1) := by decide +kernel
theorem dX8_spread_51 : decode cX8_spread 51 = .ok (.invokevirtual 199, 3) := by decide +kernel
theorem dX8_spread_54 : decode cX8_spread 54 = .ok (.iload_n 2, 1) := by decide +kernel
theorem dX8_spread_55 : decode cX8_spread 55 = .ok (.iconst (-1), 1) := by decide +kernel
theorem dX8_spread_56 : decode cX8_spread 56 = .ok (.if_icmp .ne 13, 3) := by decide +kernel
theorem dX8_spread_59 : decode cX8_spread 59 = .ok (.aload_n 0, 1) := by decide +kernel
theorem dX8_spread_60 : decode cX8_spread 60 = .ok (.getfield 68, 3) := by decide +kernel
theorem dX8_spread_63 : decode cX8_spread 63 = .ok (.getfield 203, 3) := by decide +kernel
theorem dX8_spread_66 : decode cX8_spread 66 = .ok (.goto 12, 3) := by decide +kernel
theorem dX8_spread_69 : decode cX8_spread 69 = .ok (.aload_n 0, 1) := by decide +kernel
theorem dX8_spread_70 : decode cX8_spread 70 = .ok (.getfield 68, 3) := by decide +kernel
theorem dX8_spread_73 : decode cX8_spread 73 = .ok (.getfield 206, 3) := by decide +kernel
theorem dX8_spread_76 : decode cX8_spread 76 = .ok (.iload_n 2, 1) := by decide +kernel
theorem dX8_spread_77 : decode cX8_spread 77 = .ok (.iaload, 1) := by decide +kernel
theorem dX8_spread_78 : decode cX8_spread 78 = .ok (.ireturn, 1) := by decide +kernel
theorem dX8_keepAway_0 : decode cX8_keepAway 0 = .ok (.iload_n 1, 1) := by decide +kernel
theorem dX8_keepAway_1 : decode cX8_keepAway 1 = .ok (.invokestatic 99, 3) := by decide +kernel
theorem dX8_keepAway_4 : decode cX8_keepAway 4 = .ok (.ifCond .ne 6, 3) := by decide +kernel
theorem dX8_keepAway_7 : decode cX8_keepAway 7 = .ok (.bipush (-2), 2) := by decide +kernel
theorem dX8_keepAway_9 : decode cX8_keepAway 9 = .ok (.ireturn, 1) := by decide +kernel
theorem dX8_keepAway_10 : decode cX8_keepAway 10 = .ok (.aload_n 0, 1) := by decide +kernel
theorem dX8_keepAway_11 : decode cX8_keepAway 11 = .ok (.getfield 57, 3) := by decide +kernel
theorem dX8_keepAway_14 : decode cX8_keepAway 14 = .ok (.aload_n 0, 1) := by decide +kernel
theorem dX8_keepAway_15 : decode cX8_keepAway 15 = .ok (.getfield 53, 3) := by decide +kernel
theorem dX8_keepAway_18 : decode cX8_keepAway 18 = .ok (.invokevirtual 209, 3) := by decide +kernel
theorem dX8_keepAway_21 : decode cX8_keepAway 21 = .ok (.iconst (-1), 1) := by decide +kernel
theorem dX8_keepAway_22 : decode cX8_keepAway 22 = .ok (.istore_n 2, 1) := by decide +kernel
theorem dX8_keepAway_23 : decode cX8_keepAway 23 = .ok (.iconst (-1), 1) := by decide +kernel
theorem dX8_keepAway_24 : decode cX8_keepAway 24 = .ok (.istore_n 3, 1) := by decide +kernel
theorem dX8_keepAway_25 : decode cX8_keepAway 25 = .ok (.iconst 0, 1) := by decide +kernel
theorem dX8_keepAway_26 : decode cX8_keepAway 26 = .ok (.istore 4, 2) := by decide +kernel
theorem dX8_keepAway_28 : decode cX8_keepAway 28 = .ok (.iload 4, 2) := by decide +kernel
theorem dX8_keepAway_30 : decode cX8_keepAway 30 = .ok (.aload_n 0, 1) := by decide +kernel
theorem dX8_keepAway_31 : decode cX8_keepAway 31 = .ok (.getfield 53, 3) := by decide +kernel
theorem dX8_keepAway_34 : decode cX8_keepAway 34 = .ok (.getfield 212, 3) := by decide +kernel
theorem dX8_keepAway_37 : decode cX8_keepAway 37 = .ok (.if_icmp .ge 73, 3) := by decide +kernel
theorem dX8_keepAway_40 : decode cX8_keepAway 40 = .ok (.aload_n 0, 1) := by decide +kernel
theorem dX8_keepAway_41 : decode cX8_keepAway 41 = .ok (.getfield 53, 3) := by decide +kernel
theorem dX8_keepAway_44 : decode cX8_keepAway 44 = .ok (.getfield 102, 3) := by decide +kernel
theorem dX8_keepAway_47 : decode cX8_keepAway 47 = .ok (.iload 4, 2) := by decide +kernel
theorem dX8_keepAway_49 : decode cX8_keepAway 49 = .ok (.iaload, 1) := by decide +kernel
theorem dX8_keepAway_50 : decode cX8_keepAway 50 = .ok (.iload_n 1, 1) := by decide +kernel
theorem dX8_keepAway_51 : decode cX8_keepAway 51 = .ok (.if_icmp .eq 6, 3) := by decide +kernel
theorem dX8_keepAway_54 : decode cX8_keepAway 54 = .ok (.goto 50, 3) := by decide +kernel
theorem dX8_keepAway_57 : decode cX8_keepAway 57 = .ok (.aload_n 0, 1) := by decide +kernel
theorem dX8_keepAway_58 : decode cX8_keepAway 58 = .ok (.getfield 57, 3) := by decide +kernel
theorem dX8_keepAway_61 : decode cX8_keepAway 61 = .ok (.getfield 102, 3) := by decide +kernel
theorem dX8_keepAway_64 : decode cX8_keepAway 64 = .ok (.iload 4, 2) := by decide +kernel
theorem dX8_keepAway_66 : decode cX8_keepAway 66 = .ok (.iconst (-1), 1) := by decide +kernel
theorem dX8_keepAway_67 : decode cX8_keepAway 67 = .ok (.iastore, 1) := by decide +kernel
theorem dX8_keepAway_68 : decode cX8_keepAway 68 = .ok (.aload_n 0, 1) := by decide +kernel
theorem dX8_keepAway_69 : decode cX8_keepAway 69 = .ok (.getfield 57, 3) := by decide +kernel
theorem dX8_keepAway_72 : decode cX8_keepAway 72 = .ok (.iload_n 1, 1) := by decide +kernel
theorem dX8_keepAway_73 : decode cX8_keepAway 73 = .ok (.invokevirtual 161, 3) := by decide +kernel
theorem dX8_keepAway_76 : decode cX8_keepAway 76 = .ok (.invokestatic 188, 3) := by decide +kernel
theorem dX8_keepAway_79 : decode cX8_keepAway 79 = .ok (.istore 5, 2) := by decide +kernel
theorem dX8_keepAway_81 : decode cX8_keepAway 81 = .ok (.aload_n 0, 1) := by decide +kernel
theorem dX8_keepAway_82 : decode cX8_keepAway 82 = .ok (.getfield 57, 3) := by decide +kernel
theorem dX8_keepAway_85 : decode cX8_keepAway 85 = .ok (.getfield 102, 3) := by decide +kernel
theorem dX8_keepAway_88 : decode cX8_keepAway 88 = .ok (.iload 4, 2) := by decide +kernel
theorem dX8_keepAway_90 : decode cX8_keepAway 90 = .ok (.iload_n 1, 1) := by decide +kernel
theorem dX8_keepAway_91 : decode cX8_keepAway 91 = .ok (.iastore, 1) := by decide +kernel
theorem dX8_keepAway_92 : decode cX8_keepAway 92 = .ok (.iload 5, 2) := by decide +kernel
theorem dX8_keepAway_94 : decode cX8_keepAway 94 = .ok (.iload_n 3, 1) := by decide +kernel
theorem dX8_keepAway_95 : decode cX8_keepAway 95 = .ok (.if_icmp .le 9, 3) := by decide +kernel
theorem dX8_keepAway_98 : decode cX8_keepAway 98 = .ok (.iload 5, 2) := by decide +kernel
theorem dX8_keepAway_100 : decode cX8_keepAway 100 = .ok (.istore_n 3, 1) := by decide +kernel
theorem dX8_keepAway_101 : decode cX8_keepAway 101 = .ok (.iload 4, 2) := by decide +kernel
theorem dX8_keepAway_103 : decode cX8_keepAway 103 = .ok (.istore_n 2, 1) := by decide +kernel
theorem dX8_keepAway_104 : decode cX8_keepAway 104 = .ok (.iinc 4 1, 3) := by decide +kernel
theorem dX8_keepAway_107 : decode cX8_keepAway 107 = .ok (.goto (-79), 3) := by decide +kernel
theorem dX8_keepAway_110 : decode cX8_keepAway 110 = .ok (.iload_n 2, 1) := by decide +kernel
theorem dX8_keepAway_111 : decode cX8_keepAway 111 = .ok (.ireturn, 1) := by decide +kernel
theorem dX8_send_0 : decode cX8_send 0 = .ok (.aload_n 0, 1) := by decide +kernel
theorem dX8_send_1 : decode cX8_send 1 = .ok (.getfield 53, 3) := by decide +kernel
theorem dX8_send_4 : decode cX8_send 4 = .ok (.iload_n 1, 1) := by decide +kernel
theorem dX8_send_5 : decode cX8_send 5 = .ok (.invokevirtual 98, 3) := by decide +kernel
theorem dX8_send_8 : decode cX8_send 8 = .ok (.ifCond .eq 11, 3) := by decide +kernel
theorem dX8_send_11 : decode cX8_send 11 = .ok (.iload_n 2, 1) := by decide +kernel
theorem dX8_send_12 : decode cX8_send 12 = .ok (.iconst 2, 1) := by decide +kernel
theorem dX8_send_13 : decode cX8_send 13 = .ok (.invokestatic 79, 3) := by decide +kernel
theorem dX8_send_16 : decode cX8_send 16 = .ok (.ifCond .ne 6, 3) := by decide +kernel
theorem dX8_send_19 : decode cX8_send 19 = .ok (.bipush (-2), 2) := by decide +kernel
theorem dX8_send_21 : decode cX8_send 21 = .ok (.ireturn, 1) := by decide +kernel
theorem dX8_send_22 : decode cX8_send 22 = .ok (.aload_n 0, 1) := by decide +kernel
theorem dX8_send_23 : decode cX8_send 23 = .ok (.getfield 57, 3) := by decide +kernel
theorem dX8_send_26 : decode cX8_send 26 = .ok (.aload_n 0, 1) := by decide +kernel
theorem dX8_send_27 : decode cX8_send 27 = .ok (.getfield 53, 3) := by decide +kernel
theorem dX8_send_30 : decode cX8_send 30 = .ok (.invokevirtual 209, 3) := by decide +kernel
theorem dX8_send_33 : decode cX8_send 33 = .ok (.iconst (-1), 1) := by decide +kernel
theorem dX8_send_34 : decode cX8_send 34 = .ok (.istore_n 3, 1) := by decide +kernel
theorem dX8_send_35 : decode cX8_send 35 = .ok (.iconst (-1), 1) := by decide +kernel
theorem dX8_send_36 : decode cX8_send 36 = .ok (.istore 4, 2) := by decide +kernel
theorem dX8_send_38 : decode cX8_send 38 = .ok (.iconst 0, 1) := by decide +kernel
theorem dX8_send_39 : decode cX8_send 39 = .ok (.istore 5, 2) := by decide +kernel
theorem dX8_send_41 : decode cX8_send 41 = .ok (.iload 5, 2) := by decide +kernel
theorem dX8_send_43 : decode cX8_send 43 = .ok (.iconst 4, 1) := by decide +kernel
theorem dX8_send_44 : decode cX8_send 44 = .ok (.if_icmp .ge 47, 3) := by decide +kernel
theorem dX8_send_47 : decode cX8_send 47 = .ok (.aload_n 0, 1) := by decide +kernel
theorem dX8_send_48 : decode cX8_send 48 = .ok (.getfield 57, 3) := by decide +kernel
theorem dX8_send_51 : decode cX8_send 51 = .ok (.getfield 102, 3) := by decide +kernel
theorem dX8_send_54 : decode cX8_send 54 = .ok (.iload_n 1, 1) := by decide +kernel
theorem dX8_send_55 : decode cX8_send 55 = .ok (.iload 5, 2) := by decide +kernel
theorem dX8_send_57 : decode cX8_send 57 = .ok (.iastore, 1) := by decide +kernel
theorem dX8_send_58 : decode cX8_send 58 = .ok (.aload_n 0, 1) := by decide +kernel
theorem dX8_send_59 : decode cX8_send 59 = .ok (.getfield 57, 3) := by decide +kernel
theorem dX8_send_62 : decode cX8_send 62 = .ok (.iload_n 1, 1) := by decide +kernel
theorem dX8_send_63 : decode cX8_send 63 = .ok (.invokevirtual 215, 3) := by decide +kernel
theorem dX8_send_66 : decode cX8_send 66 = .ok (.invokestatic 188, 3) := by decide +kernel
theorem dX8_send_69 : decode cX8_send 69 = .ok (.istore 6, 2) := by decide +kernel
theorem dX8_send_71 : decode cX8_send 71 = .ok (.iload 6, 2) := by decide +kernel
theorem dX8_send_73 : decode cX8_send 73 = .ok (.iload 4, 2) := by decide +kernel
theorem dX8_send_75 : decode cX8_send 75 = .ok (.if_icmp .le 10, 3) := by decide +kernel
theorem dX8_send_78 : decode cX8_send 78 = .ok (.iload 6, 2) := by decide +kernel
theorem dX8_send_80 : decode cX8_send 80 = .ok (.istore 4, 2) := by decide +kernel
theorem dX8_send_82 : decode cX8_send 82 = .ok (.iload 5, 2) := by decide +kernel
theorem dX8_send_84 : decode cX8_send 84 = .ok (.istore_n 3, 1) := by decide +kernel
theorem dX8_send_85 : decode cX8_send 85 = .ok (.iinc 5 1, 3) := by decide +kernel
theorem dX8_send_88 : decode cX8_send 88 = .ok (.goto (-47), 3) := by decide +kernel
theorem dX8_send_91 : decode cX8_send 91 = .ok (.iload_n 2, 1) := by decide +kernel
theorem dX8_send_92 : decode cX8_send 92 = .ok (.ifCond .ne 7, 3) := by decide +kernel
theorem dX8_send_95 : decode cX8_send 95 = .ok (.iload_n 3, 1) := by decide +kernel
theorem dX8_send_96 : decode cX8_send 96 = .ok (.goto 5, 3) := by decide +kernel
theorem dX8_send_99 : decode cX8_send 99 = .ok (.iload 4, 2) := by decide +kernel
theorem dX8_send_101 : decode cX8_send 101 = .ok (.ireturn, 1) := by decide +kernel
theorem dX8_stranger_0 : decode cX8_stranger 0 = .ok (.iload_n 1, 1) := by decide +kernel
theorem dX8_stranger_1 : decode cX8_stranger 1 = .ok (.invokestatic 99, 3) := by decide +kernel
theorem dX8_stranger_4 : decode cX8_stranger 4 = .ok (.ifCond .eq 22, 3) := by decide +kernel
theorem dX8_stranger_7 : decode cX8_stranger 7 = .ok (.iload_n 2, 1) := by decide +kernel
theorem dX8_stranger_8 : decode cX8_stranger 8 = .ok (.bipush 100, 2) := by decide +kernel
theorem dX8_stranger_10 : decode cX8_stranger 10 = .ok (.invokestatic 79, 3) := by decide +kernel
theorem dX8_stranger_13 : decode cX8_stranger 13 = .ok (.ifCond .eq 13, 3) := by decide +kernel
theorem dX8_stranger_16 : decode cX8_stranger 16 = .ok (.iload_n 3, 1) := by decide +kernel
theorem dX8_stranger_17 : decode cX8_stranger 17 = .ok (.sipush 256, 3) := by decide +kernel
theorem dX8_stranger_20 : decode cX8_stranger 20 = .ok (.invokestatic 79, 3) := by decide +kernel
theorem dX8_stranger_23 : decode cX8_stranger 23 = .ok (.ifCond .ne 6, 3) := by decide +kernel
theorem dX8_stranger_26 : decode cX8_stranger 26 = .ok (.bipush (-2), 2) := by decide +kernel
theorem dX8_stranger_28 : decode cX8_stranger 28 = .ok (.ireturn, 1) := by decide +kernel
theorem dX8_stranger_29 : decode cX8_stranger 29 = .ok (.aload_n 0, 1) := by decide +kernel
theorem dX8_stranger_30 : decode cX8_stranger 30 = .ok (.getfield 57, 3) := by decide +kernel
theorem dX8_stranger_33 : decode cX8_stranger 33 = .ok (.aload_n 0, 1) := by decide +kernel
theorem dX8_stranger_34 : decode cX8_stranger 34 = .ok (.getfield 53, 3) := by decide +kernel
theorem dX8_stranger_37 : decode cX8_stranger 37 = .ok (.invokevirtual 209, 3) := by decide +kernel
theorem dX8_stranger_40 : decode cX8_stranger 40 = .ok (.aload_n 0, 1) := by decide +kernel
theorem dX8_stranger_41 : decode cX8_stranger 41 = .ok (.getfield 57, 3) := by decide +kernel
theorem dX8_stranger_44 : decode cX8_stranger 44 = .ok (.iload_n 1, 1) := by decide +kernel
theorem dX8_stranger_45 : decode cX8_stranger 45 = .ok (.iload_n 2, 1) := by decide +kernel
theorem dX8_stranger_46 : decode cX8_stranger 46 = .ok (.iload_n 3, 1) := by decide +kernel
theorem dX8_stranger_47 : decode cX8_stranger 47 = .ok (.invokevirtual 218, 3) := by decide +kernel
theorem dX8_stranger_50 : decode cX8_stranger 50 = .ok (.aload_n 0, 1) := by decide +kernel
theorem dX8_stranger_51 : decode cX8_stranger 51 = .ok (.getfield 57, 3) := by decide +kernel
theorem dX8_stranger_54 : decode cX8_stranger 54 = .ok (.iload_n 1, 1) := by decide +kernel
theorem dX8_stranger_55 : decode cX8_stranger 55 = .ok (.invokevirtual 161, 3) := by decide +kernel
theorem dX8_stranger_58 : decode cX8_stranger 58 = .ok (.invokestatic 188, 3) := by decide +kernel
theorem dX8_stranger_61 : decode cX8_stranger 61 = .ok (.aload_n 0, 1) := by decide +kernel
theorem dX8_stranger_62 : decode cX8_stranger 62 = .ok (.getfield 53, 3) := by decide +kernel
theorem dX8_stranger_65 : decode cX8_stranger 65 = .ok (.iload_n 1, 1) := by decide +kernel
theorem dX8_stranger_66 : decode cX8_stranger 66 = .ok (.invokevirtual 161, 3) := by decide +kernel
theorem dX8_stranger_69 : decode cX8_stranger 69 = .ok (.invokestatic 188, 3) := by decide +kernel
theorem dX8_stranger_72 : decode cX8_stranger 72 = .ok (.isub, 1) := by decide +kernel
theorem dX8_stranger_73 : decode cX8_stranger 73 = .ok (.ireturn, 1) := by decide +kernel
theorem dX8_left_0 : decode cX8_left 0 = .ok (.iconst 0, 1) := by decide +kernel
theorem dX8_left_1 : decode cX8_left 1 = .ok (.istore_n 1, 1) := by decide +kernel
theorem dX8_left_2 : decode cX8_left 2 = .ok (.iconst 0, 1) := by decide +kernel
theorem dX8_left_3 : decode cX8_left 3 = .ok (.istore_n 2, 1) := by decide +kernel
theorem dX8_left_4 : decode cX8_left 4 = .ok (.iload_n 2, 1) := by decide +kernel
theorem dX8_left_5 : decode cX8_left 5 = .ok (.aload_n 0, 1) := by decide +kernel
theorem dX8_left_6 : decode cX8_left 6 = .ok (.getfield 53, 3) := by decide +kernel
theorem dX8_left_9 : decode cX8_left 9 = .ok (.getfield 212, 3) := by decide +kernel
theorem dX8_left_12 : decode cX8_left 12 = .ok (.if_icmp .ge 20, 3) := by decide +kernel
theorem dX8_left_15 : decode cX8_left 15 = .ok (.iload_n 1, 1) := by decide +kernel
theorem dX8_left_16 : decode cX8_left 16 = .ok (.aload_n 0, 1) := by decide +kernel
theorem dX8_left_17 : decode cX8_left 17 = .ok (.getfield 53, 3) := by decide +kernel
theorem dX8_left_20 : decode cX8_left 20 = .ok (.iload_n 2, 1) := by decide +kernel
theorem dX8_left_21 : decode cX8_left 21 = .ok (.invokevirtual 144, 3) := by decide +kernel
theorem dX8_left_24 : decode cX8_left 24 = .ok (.ior, 1) := by decide +kernel
theorem dX8_left_25 : decode cX8_left 25 = .ok (.istore_n 1, 1) := by decide +kernel
theorem dX8_left_26 : decode cX8_left 26 = .ok (.iinc 2 1, 3) := by decide +kernel
theorem dX8_left_29 : decode cX8_left 29 = .ok (.goto (-25), 3) := by decide +kernel
theorem dX8_left_32 : decode cX8_left 32 = .ok (.aload_n 0, 1) := by decide +kernel
theorem dX8_left_33 : decode cX8_left 33 = .ok (.getfield 12, 3) := by decide +kernel
theorem dX8_left_36 : decode cX8_left 36 = .ok (.invokevirtual 222, 3) := by decide +kernel
theorem dX8_left_39 : decode cX8_left 39 = .ok (.iload_n 1, 1) := by decide +kernel
theorem dX8_left_40 : decode cX8_left 40 = .ok (.iconst (-1), 1) := by decide +kernel
theorem dX8_left_41 : decode cX8_left 41 = .ok (.ixor, 1) := by decide +kernel
theorem dX8_left_42 : decode cX8_left 42 = .ok (.iand, 1) := by decide +kernel
theorem dX8_left_43 : decode cX8_left 43 = .ok (.ireturn, 1) := by decide +kernel
theorem dX8_judge_0 : decode cX8_judge 0 = .ok (.aload_n 0, 1) := by decide +kernel
theorem dX8_judge_1 : decode cX8_judge 1 = .ok (.getfield 75, 3) := by decide +kernel
theorem dX8_judge_4 : decode cX8_judge 4 = .ok (.iload_n 1, 1) := by decide +kernel
theorem dX8_judge_5 : decode cX8_judge 5 = .ok (.invokevirtual 225, 3) := by decide +kernel
theorem dX8_judge_8 : decode cX8_judge 8 = .ok (.ifCond .ne 6, 3) := by decide +kernel
theorem dX8_judge_11 : decode cX8_judge 11 = .ok (.bipush (-2), 2) := by decide +kernel
theorem dX8_judge_13 : decode cX8_judge 13 = .ok (.ireturn, 1) := by decide +kernel
theorem dX8_judge_14 : decode cX8_judge 14 = .ok (.aload_n 0, 1) := by decide +kernel
theorem dX8_judge_15 : decode cX8_judge 15 = .ok (.getfield 75, 3) := by decide +kernel
theorem dX8_judge_18 : decode cX8_judge 18 = .ok (.iload_n 1, 1) := by decide +kernel
theorem dX8_judge_19 : decode cX8_judge 19 = .ok (.invokevirtual 226, 3) := by decide +kernel
theorem dX8_judge_22 : decode cX8_judge 22 = .ok (.ifCond .eq 6, 3) := by decide +kernel
theorem dX8_judge_25 : decode cX8_judge 25 = .ok (.bipush (-11), 2) := by decide +kernel
theorem dX8_judge_27 : decode cX8_judge 27 = .ok (.ireturn, 1) := by decide +kernel
theorem dX8_judge_28 : decode cX8_judge 28 = .ok (.aload_n 0, 1) := by decide +kernel
theorem dX8_judge_29 : decode cX8_judge 29 = .ok (.getfield 75, 3) := by decide +kernel
theorem dX8_judge_32 : decode cX8_judge 32 = .ok (.getfield 229, 3) := by decide +kernel
theorem dX8_judge_35 : decode cX8_judge 35 = .ok (.iload_n 1, 1) := by decide +kernel
theorem dX8_judge_36 : decode cX8_judge 36 = .ok (.iaload, 1) := by decide +kernel
theorem dX8_judge_37 : decode cX8_judge 37 = .ok (.iconst 2, 1) := by decide +kernel
theorem dX8_judge_38 : decode cX8_judge 38 = .ok (.irem, 1) := by decide +kernel
theorem dX8_judge_39 : decode cX8_judge 39 = .ok (.ifCond .eq 6, 3) := by decide +kernel
theorem dX8_judge_42 : decode cX8_judge 42 = .ok (.bipush (-2), 2) := by decide +kernel
theorem dX8_judge_44 : decode cX8_judge 44 = .ok (.ireturn, 1) := by decide +kernel
theorem dX8_judge_45 : decode cX8_judge 45 = .ok (.aload_n 0, 1) := by decide +kernel
theorem dX8_judge_46 : decode cX8_judge 46 = .ok (.getfield 57, 3) := by decide +kernel
theorem dX8_judge_49 : decode cX8_judge 49 = .ok (.aload_n 0, 1) := by decide +kernel
theorem dX8_judge_50 : decode cX8_judge 50 = .ok (.getfield 53, 3) := by decide +kernel
theorem dX8_judge_53 : decode cX8_judge 53 = .ok (.invokevirtual 209, 3) := by decide +kernel
theorem dX8_judge_56 : decode cX8_judge 56 = .ok (.iconst 0, 1) := by decide +kernel
theorem dX8_judge_57 : decode cX8_judge 57 = .ok (.istore_n 2, 1) := by decide +kernel
theorem dX8_judge_58 : decode cX8_judge 58 = .ok (.iload_n 2, 1) := by decide +kernel
theorem dX8_judge_59 : decode cX8_judge 59 = .ok (.iconst 1, 1) := by decide +kernel
theorem dX8_judge_60 : decode cX8_judge 60 = .ok (.iadd, 1) := by decide +kernel
theorem dX8_judge_61 : decode cX8_judge 61 = .ok (.aload_n 0, 1) := by decide +kernel
theorem dX8_judge_62 : decode cX8_judge 62 = .ok (.getfield 75, 3) := by decide +kernel
theorem dX8_judge_65 : decode cX8_judge 65 = .ok (.getfield 229, 3) := by decide +kernel
theorem dX8_judge_68 : decode cX8_judge 68 = .ok (.iload_n 1, 1) := by decide +kernel
theorem dX8_judge_69 : decode cX8_judge 69 = .ok (.iaload, 1) := by decide +kernel
theorem dX8_judge_70 : decode cX8_judge 70 = .ok (.if_icmp .ge 70, 3) := by decide +kernel
theorem dX8_judge_73 : decode cX8_judge 73 = .ok (.aload_n 0, 1) := by decide +kernel
theorem dX8_judge_74 : decode cX8_judge 74 = .ok (.getfield 75, 3) := by decide +kernel
theorem dX8_judge_77 : decode cX8_judge 77 = .ok (.iload_n 1, 1) := by decide +kernel
theorem dX8_judge_78 : decode cX8_judge 78 = .ok (.iload_n 2, 1) := by decide +kernel
theorem dX8_judge_79 : decode cX8_judge 79 = .ok (.invokevirtual 231, 3) := by decide +kernel
theorem dX8_judge_82 : decode cX8_judge 82 = .ok (.istore_n 3, 1) := by decide +kernel
theorem dX8_judge_83 : decode cX8_judge 83 = .ok (.aload_n 0, 1) := by decide +kernel
theorem dX8_judge_84 : decode cX8_judge 84 = .ok (.getfield 75, 3) := by decide +kernel
theorem dX8_judge_87 : decode cX8_judge 87 = .ok (.iload_n 1, 1) := by decide +kernel
theorem dX8_judge_88 : decode cX8_judge 88 = .ok (.iload_n 2, 1) := by decide +kernel
theorem dX8_judge_89 : decode cX8_judge 89 = .ok (.iconst 1, 1) := by decide +kernel
theorem dX8_judge_90 : decode cX8_judge 90 = .ok (.iadd, 1) := by decide +kernel
theorem dX8_judge_91 : decode cX8_judge 91 = .ok (.invokevirtual 231, 3) := by decide +kernel
theorem dX8_judge_94 : decode cX8_judge 94 = .ok (.istore 4, 2) := by decide +kernel
theorem dX8_judge_96 : decode cX8_judge 96 = .ok (.iload_n 3, 1) := by decide +kernel
theorem dX8_judge_97 : decode cX8_judge 97 = .ok (.invokestatic 99, 3) := by decide +kernel
theorem dX8_judge_100 : decode cX8_judge 100 = .ok (.ifCond .eq 30, 3) := by decide +kernel
theorem dX8_judge_103 : decode cX8_judge 103 = .ok (.aload_n 0, 1) := by decide +kernel
theorem dX8_judge_104 : decode cX8_judge 104 = .ok (.getfield 12, 3) := by decide +kernel
theorem dX8_judge_107 : decode cX8_judge 107 = .ok (.iload 4, 2) := by decide +kernel
theorem dX8_judge_109 : decode cX8_judge 109 = .ok (.invokevirtual 86, 3) := by decide +kernel
theorem dX8_judge_112 : decode cX8_judge 112 = .ok (.ifCond .eq 18, 3) := by decide +kernel
theorem dX8_judge_115 : decode cX8_judge 115 = .ok (.aload_n 0, 1) := by decide +kernel
theorem dX8_judge_116 : decode cX8_judge 116 = .ok (.getfield 57, 3) := by decide +kernel
theorem dX8_judge_119 : decode cX8_judge 119 = .ok (.iload_n 3, 1) := by decide +kernel
theorem dX8_judge_120 : decode cX8_judge 120 = .ok (.iload 4, 2) := by decide +kernel
theorem dX8_judge_122 : decode cX8_judge 122 = .ok (.invokevirtual 176, 3) := by decide +kernel
theorem dX8_judge_125 : decode cX8_judge 125 = .ok (.bipush (-3), 2) := by decide +kernel
theorem dX8_judge_127 : decode cX8_judge 127 = .ok (.if_icmp .ne 7, 3) := by decide +kernel
theorem dX8_judge_130 : decode cX8_judge 130 = .ok (.iload_n 2, 1) := by decide +kernel
theorem dX8_judge_131 : decode cX8_judge 131 = .ok (.iconst 2, 1) := by decide +kernel
theorem dX8_judge_132 : decode cX8_judge 132 = .ok (.idiv, 1) := by decide +kernel
theorem dX8_judge_133 : decode cX8_judge 133 = .ok (.ireturn, 1) := by decide +kernel
theorem dX8_judge_134 : decode cX8_judge 134 = .ok (.iinc 2 2, 3) := by decide +kernel
theorem dX8_judge_137 : decode cX8_judge 137 = .ok (.goto (-79), 3) := by decide +kernel
theorem dX8_judge_140 : decode cX8_judge 140 = .ok (.iconst (-1), 1) := by decide +kernel
theorem dX8_judge_141 : decode cX8_judge 141 = .ok (.ireturn, 1) := by decide +kernel
theorem dX8_drawn_0 : decode cX8_drawn 0 = .ok (.iload_n 2, 1) := by decide +kernel
theorem dX8_drawn_1 : decode cX8_drawn 1 = .ok (.ifCond .lt 9, 3) := by decide +kernel
theorem dX8_drawn_4 : decode cX8_drawn 4 = .ok (.iload_n 2, 1) := by decide +kernel
theorem dX8_drawn_5 : decode cX8_drawn 5 = .ok (.bipush 40, 2) := by decide +kernel
theorem dX8_drawn_7 : decode cX8_drawn 7 = .ok (.if_icmp .le 6, 3) := by decide +kernel
theorem dX8_drawn_10 : decode cX8_drawn 10 = .ok (.bipush (-2), 2) := by decide +kernel
theorem dX8_drawn_12 : decode cX8_drawn 12 = .ok (.ireturn, 1) := by decide +kernel
theorem dX8_drawn_13 : decode cX8_drawn 13 = .ok (.aload_n 0, 1) := by decide +kernel
theorem dX8_drawn_14 : decode cX8_drawn 14 = .ok (.getfield 57, 3) := by decide +kernel
theorem dX8_drawn_17 : decode cX8_drawn 17 = .ok (.aload_n 0, 1) := by decide +kernel
theorem dX8_drawn_18 : decode cX8_drawn 18 = .ok (.getfield 53, 3) := by decide +kernel
theorem dX8_drawn_21 : decode cX8_drawn 21 = .ok (.invokevirtual 209, 3) := by decide +kernel
theorem dX8_drawn_24 : decode cX8_drawn 24 = .ok (.iload_n 1, 1) := by decide +kernel
theorem dX8_drawn_25 : decode cX8_drawn 25 = .ok (.istore_n 3, 1) := by decide +kernel
theorem dX8_drawn_26 : decode cX8_drawn 26 = .ok (.iconst 0, 1) := by decide +kernel
theorem dX8_drawn_27 : decode cX8_drawn 27 = .ok (.istore 4, 2) := by decide +kernel
theorem dX8_drawn_29 : decode cX8_drawn 29 = .ok (.iconst 0, 1) := by decide +kernel
theorem dX8_drawn_30 : decode cX8_drawn 30 = .ok (.istore 5, 2) := by decide +kernel
theorem dX8_drawn_32 : decode cX8_drawn 32 = .ok (.iload 5, 2) := by decide +kernel
theorem dX8_drawn_34 : decode cX8_drawn 34 = .ok (.iload_n 2, 1) := by decide +kernel
theorem dX8_drawn_35 : decode cX8_drawn 35 = .ok (.if_icmp .ge 109, 3) := by decide +kernel
theorem dX8_drawn_38 : decode cX8_drawn 38 = .ok (.iconst 0, 1) := by decide +kernel
theorem dX8_drawn_39 : decode cX8_drawn 39 = .ok (.istore 6, 2) := by decide +kernel
theorem dX8_drawn_41 : decode cX8_drawn 41 = .ok (.iload 6, 2) := by decide +kernel
theorem dX8_drawn_43 : decode cX8_drawn 43 = .ok (.aload_n 0, 1) := by decide +kernel
theorem dX8_drawn_44 : decode cX8_drawn 44 = .ok (.getfield 57, 3) := by decide +kernel
theorem dX8_drawn_47 : decode cX8_drawn 47 = .ok (.getfield 212, 3) := by decide +kernel
theorem dX8_drawn_50 : decode cX8_drawn 50 = .ok (.if_icmp .ge 34, 3) := by decide +kernel
theorem dX8_drawn_53 : decode cX8_drawn 53 = .ok (.iload_n 3, 1) := by decide +kernel
theorem dX8_drawn_54 : decode cX8_drawn 54 = .ok (.ldc 234, 2) := by decide +kernel
theorem dX8_drawn_56 : decode cX8_drawn 56 = .ok (.imul, 1) := by decide +kernel
theorem dX8_drawn_57 : decode cX8_drawn 57 = .ok (.sipush 12345, 3) := by decide +kernel
theorem dX8_drawn_60 : decode cX8_drawn 60 = .ok (.iadd, 1) := by decide +kernel
theorem dX8_drawn_61 : decode cX8_drawn 61 = .ok (.istore_n 3, 1) := by decide +kernel
theorem dX8_drawn_62 : decode cX8_drawn 62 = .ok (.aload_n 0, 1) := by decide +kernel
theorem dX8_drawn_63 : decode cX8_drawn 63 = .ok (.getfield 57, 3) := by decide +kernel
theorem dX8_drawn_66 : decode cX8_drawn 66 = .ok (.getfield 102, 3) := by decide +kernel
theorem dX8_drawn_69 : decode cX8_drawn 69 = .ok (.iload 6, 2) := by decide +kernel
theorem dX8_drawn_71 : decode cX8_drawn 71 = .ok (.iload_n 3, 1) := by decide +kernel
theorem dX8_drawn_72 : decode cX8_drawn 72 = .ok (.bipush 8, 2) := by decide +kernel
theorem dX8_drawn_74 : decode cX8_drawn 74 = .ok (.iushr, 1) := by decide +kernel
theorem dX8_drawn_75 : decode cX8_drawn 75 = .ok (.iconst 4, 1) := by decide +kernel
theorem dX8_drawn_76 : decode cX8_drawn 76 = .ok (.irem, 1) := by decide +kernel
theorem dX8_drawn_77 : decode cX8_drawn 77 = .ok (.iastore, 1) := by decide +kernel
theorem dX8_drawn_78 : decode cX8_drawn 78 = .ok (.iinc 6 1, 3) := by decide +kernel
theorem dX8_drawn_81 : decode cX8_drawn 81 = .ok (.goto (-40), 3) := by decide +kernel
theorem dX8_drawn_84 : decode cX8_drawn 84 = .ok (.iconst 0, 1) := by decide +kernel
theorem dX8_drawn_85 : decode cX8_drawn 85 = .ok (.istore 6, 2) := by decide +kernel
theorem dX8_drawn_87 : decode cX8_drawn 87 = .ok (.iload 6, 2) := by decide +kernel
theorem dX8_drawn_89 : decode cX8_drawn 89 = .ok (.iconst 4, 1) := by decide +kernel
theorem dX8_drawn_90 : decode cX8_drawn 90 = .ok (.if_icmp .ge 41, 3) := by decide +kernel
theorem dX8_drawn_93 : decode cX8_drawn 93 = .ok (.aload_n 0, 1) := by decide +kernel
theorem dX8_drawn_94 : decode cX8_drawn 94 = .ok (.getfield 57, 3) := by decide +kernel
theorem dX8_drawn_97 : decode cX8_drawn 97 = .ok (.iload 6, 2) := by decide +kernel
theorem dX8_drawn_99 : decode cX8_drawn 99 = .ok (.invokevirtual 173, 3) := by decide +kernel
theorem dX8_drawn_102 : decode cX8_drawn 102 = .ok (.istore 7, 2) := by decide +kernel
theorem dX8_drawn_104 : decode cX8_drawn 104 = .ok (.iload 7, 2) := by decide +kernel
theorem dX8_drawn_106 : decode cX8_drawn 106 = .ok (.iconst (-1), 1) := by decide +kernel
theorem dX8_drawn_107 : decode cX8_drawn 107 = .ok (.if_icmp .eq 18, 3) := by decide +kernel
theorem dX8_drawn_110 : decode cX8_drawn 110 = .ok (.aload_n 0, 1) := by decide +kernel
theorem dX8_drawn_111 : decode cX8_drawn 111 = .ok (.getfield 57, 3) := by decide +kernel
theorem dX8_drawn_114 : decode cX8_drawn 114 = .ok (.iload 6, 2) := by decide +kernel
theorem dX8_drawn_116 : decode cX8_drawn 116 = .ok (.iload 7, 2) := by decide +kernel
theorem dX8_drawn_118 : decode cX8_drawn 118 = .ok (.invokevirtual 176, 3) := by decide +kernel
theorem dX8_drawn_121 : decode cX8_drawn 121 = .ok (.pop, 1) := by decide +kernel
theorem dX8_drawn_122 : decode cX8_drawn 122 = .ok (.iinc 4 1, 3) := by decide +kernel
theorem dX8_drawn_125 : decode cX8_drawn 125 = .ok (.iinc 6 1, 3) := by decide +kernel
theorem dX8_drawn_128 : decode cX8_drawn 128 = .ok (.goto (-41), 3) := by decide +kernel
theorem dX8_drawn_131 : decode cX8_drawn 131 = .ok (.aload_n 0, 1) := by decide +kernel
theorem dX8_drawn_132 : decode cX8_drawn 132 = .ok (.getfield 57, 3) := by decide +kernel
theorem dX8_drawn_135 : decode cX8_drawn 135 = .ok (.invokevirtual 179, 3) := by decide +kernel
theorem dX8_drawn_138 : decode cX8_drawn 138 = .ok (.iinc 5 1, 3) := by decide +kernel
theorem dX8_drawn_141 : decode cX8_drawn 141 = .ok (.goto (-109), 3) := by decide +kernel
theorem dX8_drawn_144 : decode cX8_drawn 144 = .ok (.iload 4, 2) := by decide +kernel
theorem dX8_drawn_146 : decode cX8_drawn 146 = .ok (.ireturn, 1) := by decide +kernel
theorem dX8_image_0 : decode cX8_image 0 = .ok (.aload_n 0, 1) := by decide +kernel
theorem dX8_image_1 : decode cX8_image 1 = .ok (.getfield 60, 3) := by decide +kernel
theorem dX8_image_4 : decode cX8_image 4 = .ok (.aload_n 0, 1) := by decide +kernel
theorem dX8_image_5 : decode cX8_image 5 = .ok (.getfield 53, 3) := by decide +kernel
theorem dX8_image_8 : decode cX8_image 8 = .ok (.invokevirtual 209, 3) := by decide +kernel
theorem dX8_image_11 : decode cX8_image 11 = .ok (.aload_n 0, 1) := by decide +kernel
theorem dX8_image_12 : decode cX8_image 12 = .ok (.iconst 1, 1) := by decide +kernel
theorem dX8_image_13 : decode cX8_image 13 = .ok (.putfield 235, 3) := by decide +kernel
theorem dX8_image_16 : decode cX8_image 16 = .ok (.aload_n 0, 1) := by decide +kernel
theorem dX8_image_17 : decode cX8_image 17 = .ok (.getfield 53, 3) := by decide +kernel
theorem dX8_image_20 : decode cX8_image 20 = .ok (.getfield 182, 3) := by decide +kernel
theorem dX8_image_23 : decode cX8_image 23 = .ok (.ireturn, 1) := by decide +kernel
theorem dX8_back_0 : decode cX8_back 0 = .ok (.aload_n 0, 1) := by decide +kernel
theorem dX8_back_1 : decode cX8_back 1 = .ok (.getfield 235, 3) := by decide +kernel
theorem dX8_back_4 : decode cX8_back 4 = .ok (.ifCond .ne 6, 3) := by decide +kernel
theorem dX8_back_7 : decode cX8_back 7 = .ok (.bipush (-3), 2) := by decide +kernel
theorem dX8_back_9 : decode cX8_back 9 = .ok (.ireturn, 1) := by decide +kernel
theorem dX8_back_10 : decode cX8_back 10 = .ok (.aload_n 0, 1) := by decide +kernel
theorem dX8_back_11 : decode cX8_back 11 = .ok (.getfield 53, 3) := by decide +kernel
theorem dX8_back_14 : decode cX8_back 14 = .ok (.aload_n 0, 1) := by decide +kernel
theorem dX8_back_15 : decode cX8_back 15 = .ok (.getfield 60, 3) := by decide +kernel
theorem dX8_back_18 : decode cX8_back 18 = .ok (.invokevirtual 239, 3) := by decide +kernel
theorem dX8_back_21 : decode cX8_back 21 = .ok (.aload_n 0, 1) := by decide +kernel
theorem dX8_back_22 : decode cX8_back 22 = .ok (.getfield 53, 3) := by decide +kernel
theorem dX8_back_25 : decode cX8_back 25 = .ok (.getfield 182, 3) := by decide +kernel
theorem dX8_back_28 : decode cX8_back 28 = .ok (.ireturn, 1) := by decide +kernel
theorem dX8_count_0 : decode cX8_count 0 = .ok (.iload_n 1, 1) := by decide +kernel
theorem dX8_count_1 : decode cX8_count 1 = .ok (.tableswitch 87 0 5 #[39, 47, 55, 63, 71, 79], 39) := by decide +kernel
theorem dX8_count_40 : decode cX8_count 40 = .ok (.aload_n 0, 1) := by decide +kernel
theorem dX8_count_41 : decode cX8_count 41 = .ok (.getfield 12, 3) := by decide +kernel
theorem dX8_count_44 : decode cX8_count 44 = .ok (.getfield 242, 3) := by decide +kernel
theorem dX8_count_47 : decode cX8_count 47 = .ok (.ireturn, 1) := by decide +kernel
theorem dX8_count_48 : decode cX8_count 48 = .ok (.aload_n 0, 1) := by decide +kernel
theorem dX8_count_49 : decode cX8_count 49 = .ok (.getfield 53, 3) := by decide +kernel
theorem dX8_count_52 : decode cX8_count 52 = .ok (.getfield 212, 3) := by decide +kernel
theorem dX8_count_55 : decode cX8_count 55 = .ok (.ireturn, 1) := by decide +kernel
theorem dX8_count_56 : decode cX8_count 56 = .ok (.aload_n 0, 1) := by decide +kernel
theorem dX8_count_57 : decode cX8_count 57 = .ok (.getfield 53, 3) := by decide +kernel
theorem dX8_count_60 : decode cX8_count 60 = .ok (.getfield 182, 3) := by decide +kernel
theorem dX8_count_63 : decode cX8_count 63 = .ok (.ireturn, 1) := by decide +kernel
theorem dX8_count_64 : decode cX8_count 64 = .ok (.aload_n 0, 1) := by decide +kernel
theorem dX8_count_65 : decode cX8_count 65 = .ok (.getfield 19, 3) := by decide +kernel
theorem dX8_count_68 : decode cX8_count 68 = .ok (.getfield 243, 3) := by decide +kernel
theorem dX8_count_71 : decode cX8_count 71 = .ok (.ireturn, 1) := by decide +kernel
theorem dX8_count_72 : decode cX8_count 72 = .ok (.aload_n 0, 1) := by decide +kernel
theorem dX8_count_73 : decode cX8_count 73 = .ok (.getfield 26, 3) := by decide +kernel
theorem dX8_count_76 : decode cX8_count 76 = .ok (.getfield 244, 3) := by decide +kernel
theorem dX8_count_79 : decode cX8_count 79 = .ok (.ireturn, 1) := by decide +kernel
theorem dX8_count_80 : decode cX8_count 80 = .ok (.aload_n 0, 1) := by decide +kernel
theorem dX8_count_81 : decode cX8_count 81 = .ok (.getfield 53, 3) := by decide +kernel
theorem dX8_count_84 : decode cX8_count 84 = .ok (.getfield 157, 3) := by decide +kernel
theorem dX8_count_87 : decode cX8_count 87 = .ok (.ireturn, 1) := by decide +kernel
theorem dX8_count_88 : decode cX8_count 88 = .ok (.bipush (-2), 2) := by decide +kernel
theorem dX8_count_90 : decode cX8_count 90 = .ok (.ireturn, 1) := by decide +kernel
theorem dX8_sheet_0 : decode cX8_sheet 0 = .ok (.aload_n 0, 1) := by decide +kernel
theorem dX8_sheet_1 : decode cX8_sheet 1 = .ok (.getfield 75, 3) := by decide +kernel
theorem dX8_sheet_4 : decode cX8_sheet 4 = .ok (.iload_n 1, 1) := by decide +kernel
theorem dX8_sheet_5 : decode cX8_sheet 5 = .ok (.invokevirtual 225, 3) := by decide +kernel
theorem dX8_sheet_8 : decode cX8_sheet 8 = .ok (.ifCond .eq 13, 3) := by decide +kernel
theorem dX8_sheet_11 : decode cX8_sheet 11 = .ok (.iload_n 2, 1) := by decide +kernel
theorem dX8_sheet_12 : decode cX8_sheet 12 = .ok (.iconst (-1), 1) := by decide +kernel
theorem dX8_sheet_13 : decode cX8_sheet 13 = .ok (.if_icmp .lt 8, 3) := by decide +kernel
theorem dX8_sheet_16 : decode cX8_sheet 16 = .ok (.iload_n 2, 1) := by decide +kernel
theorem dX8_sheet_17 : decode cX8_sheet 17 = .ok (.iconst 3, 1) := by decide +kernel
theorem dX8_sheet_18 : decode cX8_sheet 18 = .ok (.if_icmp .lt 6, 3) := by decide +kernel
theorem dX8_sheet_21 : decode cX8_sheet 21 = .ok (.bipush (-2), 2) := by decide +kernel
theorem dX8_sheet_23 : decode cX8_sheet 23 = .ok (.ireturn, 1) := by decide +kernel
theorem dX8_sheet_24 : decode cX8_sheet 24 = .ok (.iload_n 2, 1) := by decide +kernel
theorem dX8_sheet_25 : decode cX8_sheet 25 = .ok (.iconst (-1), 1) := by decide +kernel
theorem dX8_sheet_26 : decode cX8_sheet 26 = .ok (.if_icmp .ne 15, 3) := by decide +kernel
theorem dX8_sheet_29 : decode cX8_sheet 29 = .ok (.aload_n 0, 1) := by decide +kernel
theorem dX8_sheet_30 : decode cX8_sheet 30 = .ok (.getfield 75, 3) := by decide +kernel
theorem dX8_sheet_33 : decode cX8_sheet 33 = .ok (.iload_n 1, 1) := by decide +kernel
theorem dX8_sheet_34 : decode cX8_sheet 34 = .ok (.iconst (-1), 1) := by decide +kernel
theorem dX8_sheet_35 : decode cX8_sheet 35 = .ok (.iconst 0, 1) := by decide +kernel
theorem dX8_sheet_36 : decode cX8_sheet 36 = .ok (.invokevirtual 245, 3) := by decide +kernel
theorem dX8_sheet_39 : decode cX8_sheet 39 = .ok (.iconst 1, 1) := by decide +kernel
theorem dX8_sheet_40 : decode cX8_sheet 40 = .ok (.ireturn, 1) := by decide +kernel
theorem dX8_sheet_41 : decode cX8_sheet 41 = .ok (.iload_n 3, 1) := by decide +kernel
theorem dX8_sheet_42 : decode cX8_sheet 42 = .ok (.bipush 40, 2) := by decide +kernel
theorem dX8_sheet_44 : decode cX8_sheet 44 = .ok (.if_icmp .le 6, 3) := by decide +kernel
theorem dX8_sheet_47 : decode cX8_sheet 47 = .ok (.bipush (-2), 2) := by decide +kernel
theorem dX8_sheet_49 : decode cX8_sheet 49 = .ok (.ireturn, 1) := by decide +kernel
theorem dX8_sheet_50 : decode cX8_sheet 50 = .ok (.iload_n 3, 1) := by decide +kernel
theorem dX8_sheet_51 : decode cX8_sheet 51 = .ok (.ifCond .ge 6, 3) := by decide +kernel
theorem dX8_sheet_54 : decode cX8_sheet 54 = .ok (.bipush (-14), 2) := by decide +kernel
theorem dX8_sheet_56 : decode cX8_sheet 56 = .ok (.ireturn, 1) := by decide +kernel
theorem dX8_sheet_57 : decode cX8_sheet 57 = .ok (.aload_n 0, 1) := by decide +kernel
theorem dX8_sheet_58 : decode cX8_sheet 58 = .ok (.getfield 75, 3) := by decide +kernel
theorem dX8_sheet_61 : decode cX8_sheet 61 = .ok (.iload_n 1, 1) := by decide +kernel
theorem dX8_sheet_62 : decode cX8_sheet 62 = .ok (.iload_n 2, 1) := by decide +kernel
theorem dX8_sheet_63 : decode cX8_sheet 63 = .ok (.iload_n 3, 1) := by decide +kernel
theorem dX8_sheet_64 : decode cX8_sheet 64 = .ok (.invokevirtual 245, 3) := by decide +kernel
theorem dX8_sheet_67 : decode cX8_sheet 67 = .ok (.iconst 1, 1) := by decide +kernel
theorem dX8_sheet_68 : decode cX8_sheet 68 = .ok (.ireturn, 1) := by decide +kernel
theorem dX8_cell_0 : decode cX8_cell 0 = .ok (.aload_n 0, 1) := by decide +kernel
theorem dX8_cell_1 : decode cX8_cell 1 = .ok (.getfield 75, 3) := by decide +kernel
theorem dX8_cell_4 : decode cX8_cell 4 = .ok (.iload_n 1, 1) := by decide +kernel
theorem dX8_cell_5 : decode cX8_cell 5 = .ok (.invokevirtual 225, 3) := by decide +kernel
theorem dX8_cell_8 : decode cX8_cell 8 = .ok (.ifCond .ne 6, 3) := by decide +kernel
theorem dX8_cell_11 : decode cX8_cell 11 = .ok (.bipush (-2), 2) := by decide +kernel
theorem dX8_cell_13 : decode cX8_cell 13 = .ok (.ireturn, 1) := by decide +kernel
theorem dX8_cell_14 : decode cX8_cell 14 = .ok (.aload_n 0, 1) := by decide +kernel
theorem dX8_cell_15 : decode cX8_cell 15 = .ok (.getfield 75, 3) := by decide +kernel
theorem dX8_cell_18 : decode cX8_cell 18 = .ok (.iload_n 1, 1) := by decide +kernel
theorem dX8_cell_19 : decode cX8_cell 19 = .ok (.invokevirtual 226, 3) := by decide +kernel
theorem dX8_cell_22 : decode cX8_cell 22 = .ok (.ifCond .eq 6, 3) := by decide +kernel
theorem dX8_cell_25 : decode cX8_cell 25 = .ok (.bipush (-11), 2) := by decide +kernel
theorem dX8_cell_27 : decode cX8_cell 27 = .ok (.ireturn, 1) := by decide +kernel
theorem dX8_cell_28 : decode cX8_cell 28 = .ok (.aload_n 0, 1) := by decide +kernel
theorem dX8_cell_29 : decode cX8_cell 29 = .ok (.getfield 75, 3) := by decide +kernel
theorem dX8_cell_32 : decode cX8_cell 32 = .ok (.iload_n 1, 1) := by decide +kernel
theorem dX8_cell_33 : decode cX8_cell 33 = .ok (.iload_n 2, 1) := by decide +kernel
theorem dX8_cell_34 : decode cX8_cell 34 = .ok (.invokevirtual 248, 3) := by decide +kernel
theorem dX8_cell_37 : decode cX8_cell 37 = .ok (.ifCond .ne 6, 3) := by decide +kernel
theorem dX8_cell_40 : decode cX8_cell 40 = .ok (.bipush (-12), 2) := by decide +kernel
theorem dX8_cell_42 : decode cX8_cell 42 = .ok (.ireturn, 1) := by decide +kernel
theorem dX8_cell_43 : decode cX8_cell 43 = .ok (.aload_n 0, 1) := by decide +kernel
theorem dX8_cell_44 : decode cX8_cell 44 = .ok (.getfield 75, 3) := by decide +kernel
theorem dX8_cell_47 : decode cX8_cell 47 = .ok (.iload_n 1, 1) := by decide +kernel
theorem dX8_cell_48 : decode cX8_cell 48 = .ok (.iload_n 2, 1) := by decide +kernel
theorem dX8_cell_49 : decode cX8_cell 49 = .ok (.iload_n 3, 1) := by decide +kernel
theorem dX8_cell_50 : decode cX8_cell 50 = .ok (.invokevirtual 251, 3) := by decide +kernel
theorem dX8_cell_53 : decode cX8_cell 53 = .ok (.iconst 1, 1) := by decide +kernel
theorem dX8_cell_54 : decode cX8_cell 54 = .ok (.ireturn, 1) := by decide +kernel
theorem dX8_copy_0 : decode cX8_copy 0 = .ok (.aload_n 0, 1) := by decide +kernel
theorem dX8_copy_1 : decode cX8_copy 1 = .ok (.getfield 75, 3) := by decide +kernel
theorem dX8_copy_4 : decode cX8_copy 4 = .ok (.iload_n 1, 1) := by decide +kernel
theorem dX8_copy_5 : decode cX8_copy 5 = .ok (.invokevirtual 225, 3) := by decide +kernel
theorem dX8_copy_8 : decode cX8_copy 8 = .ok (.ifCond .eq 14, 3) := by decide +kernel
theorem dX8_copy_11 : decode cX8_copy 11 = .ok (.aload_n 0, 1) := by decide +kernel
theorem dX8_copy_12 : decode cX8_copy 12 = .ok (.getfield 75, 3) := by decide +kernel
theorem dX8_copy_15 : decode cX8_copy 15 = .ok (.iload_n 3, 1) := by decide +kernel
theorem dX8_copy_16 : decode cX8_copy 16 = .ok (.invokevirtual 225, 3) := by decide +kernel
theorem dX8_copy_19 : decode cX8_copy 19 = .ok (.ifCond .ne 6, 3) := by decide +kernel
theorem dX8_copy_22 : decode cX8_copy 22 = .ok (.bipush (-2), 2) := by decide +kernel
theorem dX8_copy_24 : decode cX8_copy 24 = .ok (.ireturn, 1) := by decide +kernel
theorem dX8_copy_25 : decode cX8_copy 25 = .ok (.aload_n 0, 1) := by decide +kernel
theorem dX8_copy_26 : decode cX8_copy 26 = .ok (.getfield 75, 3) := by decide +kernel
theorem dX8_copy_29 : decode cX8_copy 29 = .ok (.iload_n 1, 1) := by decide +kernel
theorem dX8_copy_30 : decode cX8_copy 30 = .ok (.invokevirtual 226, 3) := by decide +kernel
theorem dX8_copy_33 : decode cX8_copy 33 = .ok (.ifCond .ne 14, 3) := by decide +kernel
theorem dX8_copy_36 : decode cX8_copy 36 = .ok (.aload_n 0, 1) := by decide +kernel
theorem dX8_copy_37 : decode cX8_copy 37 = .ok (.getfield 75, 3) := by decide +kernel
theorem dX8_copy_40 : decode cX8_copy 40 = .ok (.iload_n 3, 1) := by decide +kernel
theorem dX8_copy_41 : decode cX8_copy 41 = .ok (.invokevirtual 226, 3) := by decide +kernel
theorem dX8_copy_44 : decode cX8_copy 44 = .ok (.ifCond .eq 6, 3) := by decide +kernel
theorem dX8_copy_47 : decode cX8_copy 47 = .ok (.bipush (-11), 2) := by decide +kernel
theorem dX8_copy_49 : decode cX8_copy 49 = .ok (.ireturn, 1) := by decide +kernel
theorem dX8_copy_50 : decode cX8_copy 50 = .ok (.aload_n 0, 1) := by decide +kernel
theorem dX8_copy_51 : decode cX8_copy 51 = .ok (.getfield 75, 3) := by decide +kernel
theorem dX8_copy_54 : decode cX8_copy 54 = .ok (.getfield 254, 3) := by decide +kernel
theorem dX8_copy_57 : decode cX8_copy 57 = .ok (.iload_n 1, 1) := by decide +kernel
theorem dX8_copy_58 : decode cX8_copy 58 = .ok (.iaload, 1) := by decide +kernel
theorem dX8_copy_59 : decode cX8_copy 59 = .ok (.aload_n 0, 1) := by decide +kernel
theorem dX8_copy_60 : decode cX8_copy 60 = .ok (.getfield 75, 3) := by decide +kernel
theorem dX8_copy_63 : decode cX8_copy 63 = .ok (.getfield 254, 3) := by decide +kernel
theorem dX8_copy_66 : decode cX8_copy 66 = .ok (.iload_n 3, 1) := by decide +kernel
theorem dX8_copy_67 : decode cX8_copy 67 = .ok (.iaload, 1) := by decide +kernel
theorem dX8_copy_68 : decode cX8_copy 68 = .ok (.if_icmp .eq 6, 3) := by decide +kernel
theorem dX8_copy_71 : decode cX8_copy 71 = .ok (.bipush (-13), 2) := by decide +kernel
theorem dX8_copy_73 : decode cX8_copy 73 = .ok (.ireturn, 1) := by decide +kernel
theorem dX8_copy_74 : decode cX8_copy 74 = .ok (.aload_n 0, 1) := by decide +kernel
theorem dX8_copy_75 : decode cX8_copy 75 = .ok (.getfield 75, 3) := by decide +kernel
theorem dX8_copy_78 : decode cX8_copy 78 = .ok (.iload_n 1, 1) := by decide +kernel
theorem dX8_copy_79 : decode cX8_copy 79 = .ok (.iload_n 2, 1) := by decide +kernel
theorem dX8_copy_80 : decode cX8_copy 80 = .ok (.iload 5, 2) := by decide +kernel
theorem dX8_copy_82 : decode cX8_copy 82 = .ok (.invokevirtual 257, 3) := by decide +kernel
theorem dX8_copy_85 : decode cX8_copy 85 = .ok (.ifCond .eq 18, 3) := by decide +kernel
theorem dX8_copy_88 : decode cX8_copy 88 = .ok (.aload_n 0, 1) := by decide +kernel
theorem dX8_copy_89 : decode cX8_copy 89 = .ok (.getfield 75, 3) := by decide +kernel
theorem dX8_copy_92 : decode cX8_copy 92 = .ok (.iload_n 3, 1) := by decide +kernel
theorem dX8_copy_93 : decode cX8_copy 93 = .ok (.iload 4, 2) := by decide +kernel
theorem dX8_copy_95 : decode cX8_copy 95 = .ok (.iload 5, 2) := by decide +kernel
theorem dX8_copy_97 : decode cX8_copy 97 = .ok (.invokevirtual 257, 3) := by decide +kernel
theorem dX8_copy_100 : decode cX8_copy 100 = .ok (.ifCond .ne 6, 3) := by decide +kernel
theorem dX8_copy_103 : decode cX8_copy 103 = .ok (.bipush (-12), 2) := by decide +kernel
theorem dX8_copy_105 : decode cX8_copy 105 = .ok (.ireturn, 1) := by decide +kernel
theorem dX8_copy_106 : decode cX8_copy 106 = .ok (.aload_n 0, 1) := by decide +kernel
theorem dX8_copy_107 : decode cX8_copy 107 = .ok (.getfield 75, 3) := by decide +kernel
theorem dX8_copy_110 : decode cX8_copy 110 = .ok (.iload_n 1, 1) := by decide +kernel
theorem dX8_copy_111 : decode cX8_copy 111 = .ok (.iload_n 2, 1) := by decide +kernel
theorem dX8_copy_112 : decode cX8_copy 112 = .ok (.iload_n 3, 1) := by decide +kernel
theorem dX8_copy_113 : decode cX8_copy 113 = .ok (.iload 4, 2) := by decide +kernel
theorem dX8_copy_115 : decode cX8_copy 115 = .ok (.iload 5, 2) := by decide +kernel
theorem dX8_copy_117 : decode cX8_copy 117 = .ok (.invokevirtual 261, 3) := by decide +kernel
theorem dX8_copy_120 : decode cX8_copy 120 = .ok (.iload 5, 2) := by decide +kernel
theorem dX8_copy_122 : decode cX8_copy 122 = .ok (.ireturn, 1) := by decide +kernel
theorem dX8_people_0 : decode cX8_people 0 = .ok (.aload_n 0, 1) := by decide +kernel
theorem dX8_people_1 : decode cX8_people 1 = .ok (.getfield 75, 3) := by decide +kernel
theorem dX8_people_4 : decode cX8_people 4 = .ok (.iload_n 1, 1) := by decide +kernel
theorem dX8_people_5 : decode cX8_people 5 = .ok (.invokevirtual 225, 3) := by decide +kernel
theorem dX8_people_8 : decode cX8_people 8 = .ok (.ifCond .eq 23, 3) := by decide +kernel
theorem dX8_people_11 : decode cX8_people 11 = .ok (.iload_n 2, 1) := by decide +kernel
theorem dX8_people_12 : decode cX8_people 12 = .ok (.iconst 3, 1) := by decide +kernel
theorem dX8_people_13 : decode cX8_people 13 = .ok (.invokestatic 79, 3) := by decide +kernel
theorem dX8_people_16 : decode cX8_people 16 = .ok (.ifCond .eq 15, 3) := by decide +kernel
theorem dX8_people_19 : decode cX8_people 19 = .ok (.iload 4, 2) := by decide +kernel
theorem dX8_people_21 : decode cX8_people 21 = .ok (.ifCond .lt 10, 3) := by decide +kernel
theorem dX8_people_24 : decode cX8_people 24 = .ok (.iload 4, 2) := by decide +kernel
theorem dX8_people_26 : decode cX8_people 26 = .ok (.bipush 8, 2) := by decide +kernel
theorem dX8_people_28 : decode cX8_people 28 = .ok (.if_icmp .le 6, 3) := by decide +kernel
theorem dX8_people_31 : decode cX8_people 31 = .ok (.bipush (-2), 2) := by decide +kernel
theorem dX8_people_33 : decode cX8_people 33 = .ok (.ireturn, 1) := by decide +kernel
theorem dX8_people_34 : decode cX8_people 34 = .ok (.aload_n 0, 1) := by decide +kernel
theorem dX8_people_35 : decode cX8_people 35 = .ok (.getfield 75, 3) := by decide +kernel
theorem dX8_people_38 : decode cX8_people 38 = .ok (.iload_n 1, 1) := by decide +kernel
theorem dX8_people_39 : decode cX8_people 39 = .ok (.invokevirtual 226, 3) := by decide +kernel
theorem dX8_people_42 : decode cX8_people 42 = .ok (.ifCond .ne 19, 3) := by decide +kernel
theorem dX8_people_45 : decode cX8_people 45 = .ok (.aload_n 0, 1) := by decide +kernel
theorem dX8_people_46 : decode cX8_people 46 = .ok (.getfield 75, 3) := by decide +kernel
theorem dX8_people_49 : decode cX8_people 49 = .ok (.getfield 254, 3) := by decide +kernel
theorem dX8_people_52 : decode cX8_people 52 = .ok (.iload_n 1, 1) := by decide +kernel
theorem dX8_people_53 : decode cX8_people 53 = .ok (.iaload, 1) := by decide +kernel
theorem dX8_people_54 : decode cX8_people 54 = .ok (.iload_n 2, 1) := by decide +kernel
theorem dX8_people_55 : decode cX8_people 55 = .ok (.if_icmp .eq 6, 3) := by decide +kernel
theorem dX8_people_58 : decode cX8_people 58 = .ok (.bipush (-13), 2) := by decide +kernel
theorem dX8_people_60 : decode cX8_people 60 = .ok (.ireturn, 1) := by decide +kernel
theorem dX8_people_61 : decode cX8_people 61 = .ok (.aload_n 0, 1) := by decide +kernel
theorem dX8_people_62 : decode cX8_people 62 = .ok (.getfield 75, 3) := by decide +kernel
theorem dX8_people_65 : decode cX8_people 65 = .ok (.iload_n 1, 1) := by decide +kernel
theorem dX8_people_66 : decode cX8_people 66 = .ok (.invokevirtual 226, 3) := by decide +kernel
theorem dX8_people_69 : decode cX8_people 69 = .ok (.ifCond .eq 6, 3) := by decide +kernel
theorem dX8_people_72 : decode cX8_people 72 = .ok (.bipush (-11), 2) := by decide +kernel
theorem dX8_people_74 : decode cX8_people 74 = .ok (.ireturn, 1) := by decide +kernel
theorem dX8_people_75 : decode cX8_people 75 = .ok (.iconst 0, 1) := by decide +kernel
theorem dX8_people_76 : decode cX8_people 76 = .ok (.istore 5, 2) := by decide +kernel
theorem dX8_people_78 : decode cX8_people 78 = .ok (.iconst 0, 1) := by decide +kernel
theorem dX8_people_79 : decode cX8_people 79 = .ok (.istore 6, 2) := by decide +kernel
theorem dX8_people_81 : decode cX8_people 81 = .ok (.iload 6, 2) := by decide +kernel
theorem dX8_people_83 : decode cX8_people 83 = .ok (.iload 4, 2) := by decide +kernel
theorem dX8_people_85 : decode cX8_people 85 = .ok (.if_icmp .ge 83, 3) := by decide +kernel
theorem dX8_people_88 : decode cX8_people 88 = .ok (.iload_n 3, 1) := by decide +kernel
theorem dX8_people_89 : decode cX8_people 89 = .ok (.iconst 2, 1) := by decide +kernel
theorem dX8_people_90 : decode cX8_people 90 = .ok (.iload 6, 2) := by decide +kernel
theorem dX8_people_92 : decode cX8_people 92 = .ok (.imul, 1) := by decide +kernel
theorem dX8_people_93 : decode cX8_people 93 = .ok (.iadd, 1) := by decide +kernel
theorem dX8_people_94 : decode cX8_people 94 = .ok (.istore 7, 2) := by decide +kernel
theorem dX8_people_96 : decode cX8_people 96 = .ok (.aload_n 0, 1) := by decide +kernel
theorem dX8_people_97 : decode cX8_people 97 = .ok (.getfield 75, 3) := by decide +kernel
theorem dX8_people_100 : decode cX8_people 100 = .ok (.iload_n 1, 1) := by decide +kernel
theorem dX8_people_101 : decode cX8_people 101 = .ok (.iload 7, 2) := by decide +kernel
theorem dX8_people_103 : decode cX8_people 103 = .ok (.invokevirtual 248, 3) := by decide +kernel
theorem dX8_people_106 : decode cX8_people 106 = .ok (.ifCond .eq 18, 3) := by decide +kernel
theorem dX8_people_109 : decode cX8_people 109 = .ok (.aload_n 0, 1) := by decide +kernel
theorem dX8_people_110 : decode cX8_people 110 = .ok (.getfield 75, 3) := by decide +kernel
theorem dX8_people_113 : decode cX8_people 113 = .ok (.iload_n 1, 1) := by decide +kernel
theorem dX8_people_114 : decode cX8_people 114 = .ok (.iload 7, 2) := by decide +kernel
theorem dX8_people_116 : decode cX8_people 116 = .ok (.iconst 1, 1) := by decide +kernel
theorem dX8_people_117 : decode cX8_people 117 = .ok (.iadd, 1) := by decide +kernel
theorem dX8_people_118 : decode cX8_people 118 = .ok (.invokevirtual 248, 3) := by decide +kernel
theorem dX8_people_121 : decode cX8_people 121 = .ok (.ifCond .ne 6, 3) := by decide +kernel
theorem dX8_people_124 : decode cX8_people 124 = .ok (.bipush (-12), 2) := by decide +kernel
theorem dX8_people_126 : decode cX8_people 126 = .ok (.ireturn, 1) := by decide +kernel
theorem dX8_people_127 : decode cX8_people 127 = .ok (.aload_n 0, 1) := by decide +kernel
theorem dX8_people_128 : decode cX8_people 128 = .ok (.getfield 53, 3) := by decide +kernel
theorem dX8_people_131 : decode cX8_people 131 = .ok (.aload_n 0, 1) := by decide +kernel
theorem dX8_people_132 : decode cX8_people 132 = .ok (.getfield 75, 3) := by decide +kernel
theorem dX8_people_135 : decode cX8_people 135 = .ok (.iload_n 1, 1) := by decide +kernel
theorem dX8_people_136 : decode cX8_people 136 = .ok (.iload 7, 2) := by decide +kernel
theorem dX8_people_138 : decode cX8_people 138 = .ok (.invokevirtual 231, 3) := by decide +kernel
theorem dX8_people_141 : decode cX8_people 141 = .ok (.aload_n 0, 1) := by decide +kernel
theorem dX8_people_142 : decode cX8_people 142 = .ok (.getfield 75, 3) := by decide +kernel
theorem dX8_people_145 : decode cX8_people 145 = .ok (.iload_n 1, 1) := by decide +kernel
theorem dX8_people_146 : decode cX8_people 146 = .ok (.iload 7, 2) := by decide +kernel
theorem dX8_people_148 : decode cX8_people 148 = .ok (.iconst 1, 1) := by decide +kernel
theorem dX8_people_149 : decode cX8_people 149 = .ok (.iadd, 1) := by decide +kernel
theorem dX8_people_150 : decode cX8_people 150 = .ok (.invokevirtual 231, 3) := by decide +kernel
theorem dX8_people_153 : decode cX8_people 153 = .ok (.invokevirtual 94, 3) := by decide +kernel
theorem dX8_people_156 : decode cX8_people 156 = .ok (.ifCond .lt 6, 3) := by decide +kernel
theorem dX8_people_159 : decode cX8_people 159 = .ok (.iinc 5 1, 3) := by decide +kernel
theorem dX8_people_162 : decode cX8_people 162 = .ok (.iinc 6 1, 3) := by decide +kernel
theorem dX8_people_165 : decode cX8_people 165 = .ok (.goto (-84), 3) := by decide +kernel
theorem dX8_people_168 : decode cX8_people 168 = .ok (.iload 5, 2) := by decide +kernel
theorem dX8_people_170 : decode cX8_people 170 = .ok (.ireturn, 1) := by decide +kernel
theorem dX8_taken_0 : decode cX8_taken 0 = .ok (.iload_n 2, 1) := by decide +kernel
theorem dX8_taken_1 : decode cX8_taken 1 = .ok (.bipush 6, 2) := by decide +kernel
theorem dX8_taken_3 : decode cX8_taken 3 = .ok (.invokestatic 79, 3) := by decide +kernel
theorem dX8_taken_6 : decode cX8_taken 6 = .ok (.ifCond .ne 6, 3) := by decide +kernel
theorem dX8_taken_9 : decode cX8_taken 9 = .ok (.bipush (-2), 2) := by decide +kernel
theorem dX8_taken_11 : decode cX8_taken 11 = .ok (.ireturn, 1) := by decide +kernel
theorem dX8_taken_12 : decode cX8_taken 12 = .ok (.aload_n 0, 1) := by decide +kernel
theorem dX8_taken_13 : decode cX8_taken 13 = .ok (.getfield 12, 3) := by decide +kernel
theorem dX8_taken_16 : decode cX8_taken 16 = .ok (.iload_n 1, 1) := by decide +kernel
theorem dX8_taken_17 : decode cX8_taken 17 = .ok (.invokevirtual 86, 3) := by decide +kernel
theorem dX8_taken_20 : decode cX8_taken 20 = .ok (.ifCond .ne 6, 3) := by decide +kernel
theorem dX8_taken_23 : decode cX8_taken 23 = .ok (.bipush (-11), 2) := by decide +kernel
theorem dX8_taken_25 : decode cX8_taken 25 = .ok (.ireturn, 1) := by decide +kernel
theorem dX8_taken_26 : decode cX8_taken 26 = .ok (.aload_n 0, 1) := by decide +kernel
theorem dX8_taken_27 : decode cX8_taken 27 = .ok (.getfield 12, 3) := by decide +kernel
theorem dX8_taken_30 : decode cX8_taken 30 = .ok (.iload_n 1, 1) := by decide +kernel
theorem dX8_taken_31 : decode cX8_taken 31 = .ok (.iload_n 2, 1) := by decide +kernel
theorem dX8_taken_32 : decode cX8_taken 32 = .ok (.invokevirtual 265, 3) := by decide +kernel
theorem dX8_taken_35 : decode cX8_taken 35 = .ok (.ifCond .eq 15, 3) := by decide +kernel
theorem dX8_taken_38 : decode cX8_taken 38 = .ok (.aload_n 0, 1) := by decide +kernel
theorem dX8_taken_39 : decode cX8_taken 39 = .ok (.getfield 12, 3) := by decide +kernel
theorem dX8_taken_42 : decode cX8_taken 42 = .ok (.getfield 131, 3) := by decide +kernel
theorem dX8_taken_45 : decode cX8_taken 45 = .ok (.iload_n 1, 1) := by decide +kernel
theorem dX8_taken_46 : decode cX8_taken 46 = .ok (.iaload, 1) := by decide +kernel
theorem dX8_taken_47 : decode cX8_taken 47 = .ok (.goto 5, 3) := by decide +kernel
theorem dX8_taken_50 : decode cX8_taken 50 = .ok (.bipush (-13), 2) := by decide +kernel
theorem dX8_taken_52 : decode cX8_taken 52 = .ok (.ireturn, 1) := by decide +kernel
theorem dX8_isBelow_0 : decode cX8_isBelow 0 = .ok (.iload_n 0, 1) := by decide +kernel
theorem dX8_isBelow_1 : decode cX8_isBelow 1 = .ok (.ifCond .lt 12, 3) := by decide +kernel
theorem dX8_isBelow_4 : decode cX8_isBelow 4 = .ok (.iload_n 0, 1) := by decide +kernel
theorem dX8_isBelow_5 : decode cX8_isBelow 5 = .ok (.iload_n 1, 1) := by decide +kernel
theorem dX8_isBelow_6 : decode cX8_isBelow 6 = .ok (.if_icmp .ge 7, 3) := by decide +kernel
theorem dX8_isBelow_9 : decode cX8_isBelow 9 = .ok (.iconst 1, 1) := by decide +kernel
theorem dX8_isBelow_10 : decode cX8_isBelow 10 = .ok (.goto 4, 3) := by decide +kernel
theorem dX8_isBelow_13 : decode cX8_isBelow 13 = .ok (.iconst 0, 1) := by decide +kernel
theorem dX8_isBelow_14 : decode cX8_isBelow 14 = .ok (.ireturn, 1) := by decide +kernel
theorem dX8_isHouse_0 : decode cX8_isHouse 0 = .ok (.iload_n 0, 1) := by decide +kernel
theorem dX8_isHouse_1 : decode cX8_isHouse 1 = .ok (.iconst 4, 1) := by decide +kernel
theorem dX8_isHouse_2 : decode cX8_isHouse 2 = .ok (.invokestatic 79, 3) := by decide +kernel
theorem dX8_isHouse_5 : decode cX8_isHouse 5 = .ok (.ireturn, 1) := by decide +kernel
theorem dX8_put_0 : decode cX8_put 0 = .ok (.aload_n 0, 1) := by decide +kernel
theorem dX8_put_1 : decode cX8_put 1 = .ok (.iload_n 1, 1) := by decide +kernel
theorem dX8_put_2 : decode cX8_put 2 = .ok (.iaload, 1) := by decide +kernel
theorem dX8_put_3 : decode cX8_put 3 = .ok (.istore_n 3, 1) := by decide +kernel
theorem dX8_put_4 : decode cX8_put 4 = .ok (.aload_n 0, 1) := by decide +kernel
theorem dX8_put_5 : decode cX8_put 5 = .ok (.iload_n 1, 1) := by decide +kernel
theorem dX8_put_6 : decode cX8_put 6 = .ok (.iload_n 2, 1) := by decide +kernel
theorem dX8_put_7 : decode cX8_put 7 = .ok (.iastore, 1) := by decide +kernel
theorem dX8_put_8 : decode cX8_put 8 = .ok (.iload_n 3, 1) := by decide +kernel
theorem dX8_put_9 : decode cX8_put 9 = .ok (.ireturn, 1) := by decide +kernel
theorem dX8_canTellAll_0 : decode cX8_canTellAll 0 = .ok (.aload_n 0, 1) := by decide +kernel
theorem dX8_canTellAll_1 : decode cX8_canTellAll 1 = .ok (.getfield 57, 3) := by decide +kernel
theorem dX8_canTellAll_4 : decode cX8_canTellAll 4 = .ok (.aload_n 0, 1) := by decide +kernel
theorem dX8_canTellAll_5 : decode cX8_canTellAll 5 = .ok (.getfield 53, 3) := by decide +kernel
theorem dX8_canTellAll_8 : decode cX8_canTellAll 8 = .ok (.invokevirtual 209, 3) := by decide +kernel
theorem dX8_canTellAll_11 : decode cX8_canTellAll 11 = .ok (.iconst 0, 1) := by decide +kernel
theorem dX8_canTellAll_12 : decode cX8_canTellAll 12 = .ok (.istore_n 3, 1) := by decide +kernel
theorem dX8_canTellAll_13 : decode cX8_canTellAll 13 = .ok (.iload_n 3, 1) := by decide +kernel
theorem dX8_canTellAll_14 : decode cX8_canTellAll 14 = .ok (.aload_n 0, 1) := by decide +kernel
theorem dX8_canTellAll_15 : decode cX8_canTellAll 15 = .ok (.getfield 12, 3) := by decide +kernel
theorem dX8_canTellAll_18 : decode cX8_canTellAll 18 = .ok (.getfield 242, 3) := by decide +kernel
theorem dX8_canTellAll_21 : decode cX8_canTellAll 21 = .ok (.if_icmp .ge 34, 3) := by decide +kernel
theorem dX8_canTellAll_24 : decode cX8_canTellAll 24 = .ok (.iload_n 2, 1) := by decide +kernel
theorem dX8_canTellAll_25 : decode cX8_canTellAll 25 = .ok (.iload_n 3, 1) := by decide +kernel
theorem dX8_canTellAll_26 : decode cX8_canTellAll 26 = .ok (.ishr, 1) := by decide +kernel
theorem dX8_canTellAll_27 : decode cX8_canTellAll 27 = .ok (.iconst 1, 1) := by decide +kernel
theorem dX8_canTellAll_28 : decode cX8_canTellAll 28 = .ok (.iand, 1) := by decide +kernel
theorem dX8_canTellAll_29 : decode cX8_canTellAll 29 = .ok (.iconst 1, 1) := by decide +kernel
theorem dX8_canTellAll_30 : decode cX8_canTellAll 30 = .ok (.if_icmp .ne 19, 3) := by decide +kernel
theorem dX8_canTellAll_33 : decode cX8_canTellAll 33 = .ok (.aload_n 0, 1) := by decide +kernel
theorem dX8_canTellAll_34 : decode cX8_canTellAll 34 = .ok (.getfield 57, 3) := by decide +kernel
theorem dX8_canTellAll_37 : decode cX8_canTellAll 37 = .ok (.iload_n 1, 1) := by decide +kernel
theorem dX8_canTellAll_38 : decode cX8_canTellAll 38 = .ok (.iload_n 3, 1) := by decide +kernel
theorem dX8_canTellAll_39 : decode cX8_canTellAll 39 = .ok (.invokevirtual 176, 3) := by decide +kernel
theorem dX8_canTellAll_42 : decode cX8_canTellAll 42 = .ok (.bipush (-3), 2) := by decide +kernel
theorem dX8_canTellAll_44 : decode cX8_canTellAll 44 = .ok (.if_icmp .ne 5, 3) := by decide +kernel
theorem dX8_canTellAll_47 : decode cX8_canTellAll 47 = .ok (.iconst 0, 1) := by decide +kernel
theorem dX8_canTellAll_48 : decode cX8_canTellAll 48 = .ok (.ireturn, 1) := by decide +kernel
theorem dX8_canTellAll_49 : decode cX8_canTellAll 49 = .ok (.iinc 3 1, 3) := by decide +kernel
theorem dX8_canTellAll_52 : decode cX8_canTellAll 52 = .ok (.goto (-39), 3) := by decide +kernel
theorem dX8_canTellAll_55 : decode cX8_canTellAll 55 = .ok (.iconst 1, 1) := by decide +kernel
theorem dX8_canTellAll_56 : decode cX8_canTellAll 56 = .ok (.ireturn, 1) := by decide +kernel
end
section
/-! ===== the walking judgement: a world is numbered cells of ints; g k j is slot j of cell k ===== -/
abbrev nt_T : Type := Nat → Nat → Int32
/-- cell k's row becomes f -/
def nt_sc (g : nt_T) (k : Nat) (f : Nat → Int32) : nt_T := fun k' => if k' = k then f else g k'
/-- slot j of cell k becomes v -/
def nt_st (g : nt_T) (k j : Nat) (v : Int32) : nt_T := nt_sc g k (upd (g k) j v)
/-- the two halves of a long in a row of ints -/
def nt_hi (v : Int64) : Int32 := Int32.ofInt (v.toInt / 4294967296)
def nt_lo (v : Int64) : Int32 := Int32.ofInt (v.toInt % 4294967296 - 2147483648)
def nt_mk (h l : Int32) : Int64 := Int64.ofInt (h.toInt * 4294967296 + l.toInt + 2147483648)
theorem nt_mk_hl (v : Int64) : nt_mk (nt_hi v) (nt_lo v) = v := by
  have h1 := Int64.le_toInt v
  have h2 := Int64.toInt_lt v
  unfold nt_mk nt_hi nt_lo
  rw [Int32.toInt_ofInt_of_le (by omega) (by omega), Int32.toInt_ofInt_of_le (by omega) (by omega)]
  have e : v.toInt / 4294967296 * 4294967296 + (v.toInt % 4294967296 - 2147483648) + 2147483648 = v.toInt := by omega
  rw [e]
  exact Int64.ofInt_toInt v
/-- a world: the classes' numbers, the array classes, the addresses of constants, a static's value, how many cells, their addresses, their forms -/
abbrev nt_w : Type := va_G × List (ClassId × FieldType) × (Nat → Nat) × Value × Nat × (Nat → Nat) × (Nat → (Nat → Int32) → va_E)
abbrev nt_n (w : nt_w) : Nat := w.2.2.2.2.1
abbrev nt_a (w : nt_w) : Nat → Nat := w.2.2.2.2.2.1
abbrev nt_E (w : nt_w) : Nat → (Nat → Int32) → va_E := w.2.2.2.2.2.2
def nt_W (w : nt_w) (g : nt_T) : va_W := (List.range (nt_n w)).map (fun k => (nt_a w k, nt_E w k (g k)))
theorem nt_W_at {w : nt_w} {g : nt_T} {k : Nat} (h : k < nt_n w) : (nt_W w g)[k]? = some (nt_a w k, nt_E w k (g k)) := by simp [nt_W, h]
theorem nt_W_inv {w : nt_w} {g : nt_T} {k : Nat} {q : Nat × va_E} (h : (nt_W w g)[k]? = some q) : k < nt_n w ∧ q = (nt_a w k, nt_E w k (g k)) := by
  by_cases hk : k < nt_n w
  · rw [nt_W_at hk] at h
    exact ⟨hk, (Option.some.inj h).symm⟩
  · simp [nt_W, hk] at h
theorem nt_W_set {w : nt_w} {g : nt_T} {k : Nat} (h : k < nt_n w) (f : Nat → Int32) : (nt_W w g).set k (nt_a w k, nt_E w k f) = nt_W w (nt_sc g k f) := by
  apply List.ext_getElem?
  intro i
  rw [List.getElem?_set]
  by_cases hik : k = i
  · subst hik
    rw [if_pos rfl, nt_W_at h]
    simp [nt_W, h, nt_sc]
  · rw [if_neg hik]
    have e : nt_sc g k f i = g i := by simp [nt_sc, Ne.symm hik]
    by_cases hi : i < nt_n w
    · rw [nt_W_at hi, nt_W_at hi, e]
    · simp [nt_W, hi]
theorem nt_W_dom {w : nt_w} {g g' : nt_T} {A : Nat → Prop} (h : va_D A (nt_W w g)) : va_D A (nt_W w g') := by
  refine ⟨fun i j p q hi hj e => ?_, fun k q hk => ?_⟩
  · obtain ⟨hi1, rfl⟩ := nt_W_inv hi
    obtain ⟨hj1, rfl⟩ := nt_W_inv hj
    exact h.1 i j _ _ (nt_W_at hi1) (nt_W_at hj1) e
  · obtain ⟨hk1, rfl⟩ := nt_W_inv hk
    exact h.2 k (nt_a w k, nt_E w k (g k)) (nt_W_at hk1)
theorem nt_W_A {w : nt_w} {g g' : nt_T} {sz q : Nat} (h : va_A (nt_W w g) sz q) : va_A (nt_W w g') sz q := by
  rcases h with ⟨k, e, h⟩ | h
  · obtain ⟨hk1, hq⟩ := nt_W_inv h
    refine Or.inl ⟨k, nt_E w k (g' k), ?_⟩
    have hq1 : q = nt_a w k := congrArg Prod.fst hq
    rw [hq1]
    exact nt_W_at hk1
  · exact Or.inr h

def nt_nestF : List (String × Nat × String × String × String × String) := [("NotTwice", 125, "NotTwice$Shelf", "kind", "[I", "NotTwice"), ("NotTwice", 128, "NotTwice$Shelf", "worth", "[I", "NotTwice"), ("NotTwice", 131, "NotTwice$Shelf", "number", "[I", "NotTwice"), ("NotTwice", 134, "NotTwice$Shelf", "twin", "[I", "NotTwice"), ("NotTwice$Seating", 91, "NotTwice$Shelf", "size", "I", "NotTwice"), ("NotTwice$People", 91, "NotTwice$Shelf", "size", "I", "NotTwice"), ("NotTwice", 242, "NotTwice$Shelf", "size", "I", "NotTwice"), ("NotTwice$People", 137, "NotTwice$Texts", "names", "[I", "NotTwice"), ("NotTwice$People", 148, "NotTwice$Texts", "stack", "[I", "NotTwice"), ("NotTwice", 243, "NotTwice$Texts", "size", "I", "NotTwice"), ("NotTwice", 244, "NotTwice$Reader", "size", "I", "NotTwice"), ("NotTwice$Seating", 81, "NotTwice$People", "shelf", "LNotTwice$Shelf;", "NotTwice"), ("NotTwice", 102, "NotTwice$People", "house", "[I", "NotTwice"), ("NotTwice", 110, "NotTwice$People", "age", "[I", "NotTwice"), ("NotTwice$Seating", 78, "NotTwice$People", "tells", "[I", "NotTwice"), ("NotTwice", 113, "NotTwice$People", "tells", "[I", "NotTwice"), ("NotTwice", 116, "NotTwice$People", "heard", "[I", "NotTwice"), ("NotTwice$Seating", 37, "NotTwice$People", "size", "I", "NotTwice"), ("NotTwice", 212, "NotTwice$People", "size", "I", "NotTwice"), ("NotTwice", 182, "NotTwice$People", "night", "I", "NotTwice"), ("NotTwice", 157, "NotTwice$People", "rule", "I", "NotTwice"), ("NotTwice", 206, "NotTwice$Seating", "bestSeat", "[I", "NotTwice"), ("NotTwice", 203, "NotTwice$Seating", "best", "I", "NotTwice"), ("NotTwice", 254, "NotTwice$Sheets", "sort", "[I", "NotTwice"), ("NotTwice", 229, "NotTwice$Sheets", "size", "[I", "NotTwice")]
def nt_nestM : List (String × Nat × MethodName × String) := [("NotTwice", 11, ⟨"NotTwice$Shelf", "<init>", "()V"⟩, "NotTwice"), ("NotTwice", 18, ⟨"NotTwice$Texts", "<init>", "()V"⟩, "NotTwice"), ("NotTwice", 25, ⟨"NotTwice$Reader", "<init>", "()V"⟩, "NotTwice"), ("NotTwice", 30, ⟨"NotTwice$Reader", "putFirstText", "()V"⟩, "NotTwice"), ("NotTwice", 33, ⟨"NotTwice$Reader", "reads", "()Z"⟩, "NotTwice"), ("NotTwice", 37, ⟨"NotTwice$Reader", "made", "()LNotTwice$Rule;"⟩, "NotTwice"), ("NotTwice$Reader", 49, ⟨"NotTwice$Rule", "<init>", "([IIII)V"⟩, "NotTwice"), ("NotTwice", 41, ⟨"NotTwice$Texts", "add", "(LNotTwice$Rule;)I"⟩, "NotTwice"), ("NotTwice", 45, ⟨"NotTwice$Reader", "empty", "()V"⟩, "NotTwice"), ("NotTwice", 50, ⟨"NotTwice$People", "<init>", "(LNotTwice$Shelf;LNotTwice$Texts;)V"⟩, "NotTwice"), ("NotTwice", 65, ⟨"NotTwice$Seating", "<init>", "(LNotTwice$People;)V"⟩, "NotTwice"), ("NotTwice", 74, ⟨"NotTwice$Sheets", "<init>", "()V"⟩, "NotTwice"), ("NotTwice", 83, ⟨"NotTwice$Shelf", "add", "(III)I"⟩, "NotTwice"), ("NotTwice", 86, ⟨"NotTwice$Shelf", "has", "(I)Z"⟩, "NotTwice"), ("NotTwice$Shelf", 28, ⟨"NotTwice", "isBelow", "(II)Z"⟩, "NotTwice"), ("NotTwice", 90, ⟨"NotTwice$Shelf", "join", "(II)V"⟩, "NotTwice"), ("NotTwice", 94, ⟨"NotTwice$People", "come", "(II)I"⟩, "NotTwice"), ("NotTwice$People", 42, ⟨"NotTwice", "isBelow", "(II)Z"⟩, "NotTwice"), ("NotTwice", 98, ⟨"NotTwice$People", "has", "(I)Z"⟩, "NotTwice"), ("NotTwice", 119, ⟨"NotTwice$People", "hear", "(II)V"⟩, "NotTwice"), ("NotTwice", 122, ⟨"NotTwice$People", "forget", "(II)V"⟩, "NotTwice"), ("NotTwice", 137, ⟨"NotTwice$Shelf", "stays", "(I)I"⟩, "NotTwice"), ("NotTwice", 141, ⟨"NotTwice$Shelf", "counts", "(II)I"⟩, "NotTwice"), ("NotTwice", 144, ⟨"NotTwice$People", "knows", "(I)I"⟩, "NotTwice"), ("NotTwice$People", 66, ⟨"NotTwice$Shelf", "withTwins", "(I)I"⟩, "NotTwice"), ("NotTwice", 147, ⟨"NotTwice$Reader", "put", "(I)I"⟩, "NotTwice"), ("NotTwice", 149, ⟨"NotTwice$Texts", "isFull", "()Z"⟩, "NotTwice"), ("NotTwice", 152, ⟨"NotTwice$Reader", "place", "()I"⟩, "NotTwice"), ("NotTwice", 156, ⟨"NotTwice$Texts", "has", "(I)Z"⟩, "NotTwice"), ("NotTwice$Texts", 30, ⟨"NotTwice", "isBelow", "(II)Z"⟩, "NotTwice"), ("NotTwice", 161, ⟨"NotTwice$People", "tellableIn", "(I)I"⟩, "NotTwice"), ("NotTwice$People", 84, ⟨"NotTwice$Shelf", "all", "()I"⟩, "NotTwice"), ("NotTwice$People", 131, ⟨"NotTwice$Texts", "at", "(I)LNotTwice$Rule;"⟩, "NotTwice"), ("NotTwice$People", 140, ⟨"NotTwice$Shelf", "counts", "(II)I"⟩, "NotTwice"), ("NotTwice$People", 151, ⟨"NotTwice$Rule", "value", "(I[I[I)I"⟩, "NotTwice"), ("NotTwice", 164, ⟨"NotTwice$People", "byWhom", "(II)I"⟩, "NotTwice"), ("NotTwice", 167, ⟨"NotTwice$People", "worthOf", "(II)J"⟩, "NotTwice"), ("NotTwice", 173, ⟨"NotTwice$People", "bestOf", "(I)I"⟩, "NotTwice"), ("NotTwice", 176, ⟨"NotTwice$People", "spend", "(II)I"⟩, "NotTwice"), ("NotTwice", 179, ⟨"NotTwice$People", "sleep", "()V"⟩, "NotTwice"), ("NotTwice$People", 125, ⟨"NotTwice$Shelf", "stays", "(I)I"⟩, "NotTwice"), ("NotTwice", 185, ⟨"NotTwice$People", "unheardIn", "(I)I"⟩, "NotTwice"), ("NotTwice", 209, ⟨"NotTwice$People", "takeAll", "(LNotTwice$People;)V"⟩, "NotTwice"), ("NotTwice", 196, ⟨"NotTwice$Seating", "waysOver", "(I)I"⟩, "NotTwice"), ("NotTwice", 199, ⟨"NotTwice$Seating", "search", "(I)V"⟩, "NotTwice"), ("NotTwice$Seating", 72, ⟨"NotTwice$People", "knows", "(I)I"⟩, "NotTwice"), ("NotTwice$Seating", 85, ⟨"NotTwice$Shelf", "all", "()I"⟩, "NotTwice"), ("NotTwice$Seating", 92, ⟨"NotTwice$People", "value", "(IIII)I"⟩, "NotTwice"), ("NotTwice", 215, ⟨"NotTwice$People", "tellableBy", "(I)I"⟩, "NotTwice"), ("NotTwice", 218, ⟨"NotTwice$People", "sit", "(III)V"⟩, "NotTwice"), ("NotTwice", 222, ⟨"NotTwice$Shelf", "all", "()I"⟩, "NotTwice"), ("NotTwice", 225, ⟨"NotTwice$Sheets", "has", "(I)Z"⟩, "NotTwice"), ("NotTwice$Sheets", 21, ⟨"NotTwice", "isBelow", "(II)Z"⟩, "NotTwice"), ("NotTwice", 226, ⟨"NotTwice$Sheets", "isMissing", "(I)Z"⟩, "NotTwice"), ("NotTwice", 231, ⟨"NotTwice$Sheets", "at", "(II)I"⟩, "NotTwice"), ("NotTwice", 239, ⟨"NotTwice$People", "goBackTo", "(LNotTwice$People;)V"⟩, "NotTwice"), ("NotTwice", 245, ⟨"NotTwice$Sheets", "lay", "(III)V"⟩, "NotTwice"), ("NotTwice", 248, ⟨"NotTwice$Sheets", "reaches", "(II)Z"⟩, "NotTwice"), ("NotTwice", 251, ⟨"NotTwice$Sheets", "write", "(III)V"⟩, "NotTwice"), ("NotTwice", 257, ⟨"NotTwice$Sheets", "hasRun", "(III)Z"⟩, "NotTwice"), ("NotTwice", 261, ⟨"NotTwice$Sheets", "carry", "(IIIII)V"⟩, "NotTwice"), ("NotTwice", 265, ⟨"NotTwice$Shelf", "isUnder", "(II)Z"⟩, "NotTwice")]
theorem nt_nf0 : ("NotTwice", 125, "NotTwice$Shelf", "kind", "[I", "NotTwice") ∈ nt_nestF := List.mem_of_getElem? (i := 0) rfl
theorem nt_nf1 : ("NotTwice", 128, "NotTwice$Shelf", "worth", "[I", "NotTwice") ∈ nt_nestF := List.mem_of_getElem? (i := 1) rfl
theorem nt_nf2 : ("NotTwice", 131, "NotTwice$Shelf", "number", "[I", "NotTwice") ∈ nt_nestF := List.mem_of_getElem? (i := 2) rfl
theorem nt_nf3 : ("NotTwice", 134, "NotTwice$Shelf", "twin", "[I", "NotTwice") ∈ nt_nestF := List.mem_of_getElem? (i := 3) rfl
theorem nt_nf4 : ("NotTwice$Seating", 91, "NotTwice$Shelf", "size", "I", "NotTwice") ∈ nt_nestF := List.mem_of_getElem? (i := 4) rfl
theorem nt_nf5 : ("NotTwice$People", 91, "NotTwice$Shelf", "size", "I", "NotTwice") ∈ nt_nestF := List.mem_of_getElem? (i := 5) rfl
theorem nt_nf6 : ("NotTwice", 242, "NotTwice$Shelf", "size", "I", "NotTwice") ∈ nt_nestF := List.mem_of_getElem? (i := 6) rfl
theorem nt_nf7 : ("NotTwice$People", 137, "NotTwice$Texts", "names", "[I", "NotTwice") ∈ nt_nestF := List.mem_of_getElem? (i := 7) rfl
theorem nt_nf8 : ("NotTwice$People", 148, "NotTwice$Texts", "stack", "[I", "NotTwice") ∈ nt_nestF := List.mem_of_getElem? (i := 8) rfl
theorem nt_nf9 : ("NotTwice", 243, "NotTwice$Texts", "size", "I", "NotTwice") ∈ nt_nestF := List.mem_of_getElem? (i := 9) rfl
theorem nt_nf10 : ("NotTwice", 244, "NotTwice$Reader", "size", "I", "NotTwice") ∈ nt_nestF := List.mem_of_getElem? (i := 10) rfl
theorem nt_nf11 : ("NotTwice$Seating", 81, "NotTwice$People", "shelf", "LNotTwice$Shelf;", "NotTwice") ∈ nt_nestF := List.mem_of_getElem? (i := 11) rfl
theorem nt_nf12 : ("NotTwice", 102, "NotTwice$People", "house", "[I", "NotTwice") ∈ nt_nestF := List.mem_of_getElem? (i := 12) rfl
theorem nt_nf13 : ("NotTwice", 110, "NotTwice$People", "age", "[I", "NotTwice") ∈ nt_nestF := List.mem_of_getElem? (i := 13) rfl
theorem nt_nf14 : ("NotTwice$Seating", 78, "NotTwice$People", "tells", "[I", "NotTwice") ∈ nt_nestF := List.mem_of_getElem? (i := 14) rfl
theorem nt_nf15 : ("NotTwice", 113, "NotTwice$People", "tells", "[I", "NotTwice") ∈ nt_nestF := List.mem_of_getElem? (i := 15) rfl
theorem nt_nf16 : ("NotTwice", 116, "NotTwice$People", "heard", "[I", "NotTwice") ∈ nt_nestF := List.mem_of_getElem? (i := 16) rfl
theorem nt_nf17 : ("NotTwice$Seating", 37, "NotTwice$People", "size", "I", "NotTwice") ∈ nt_nestF := List.mem_of_getElem? (i := 17) rfl
theorem nt_nf18 : ("NotTwice", 212, "NotTwice$People", "size", "I", "NotTwice") ∈ nt_nestF := List.mem_of_getElem? (i := 18) rfl
theorem nt_nf19 : ("NotTwice", 182, "NotTwice$People", "night", "I", "NotTwice") ∈ nt_nestF := List.mem_of_getElem? (i := 19) rfl
theorem nt_nf20 : ("NotTwice", 157, "NotTwice$People", "rule", "I", "NotTwice") ∈ nt_nestF := List.mem_of_getElem? (i := 20) rfl
theorem nt_nf21 : ("NotTwice", 206, "NotTwice$Seating", "bestSeat", "[I", "NotTwice") ∈ nt_nestF := List.mem_of_getElem? (i := 21) rfl
theorem nt_nf22 : ("NotTwice", 203, "NotTwice$Seating", "best", "I", "NotTwice") ∈ nt_nestF := List.mem_of_getElem? (i := 22) rfl
theorem nt_nf23 : ("NotTwice", 254, "NotTwice$Sheets", "sort", "[I", "NotTwice") ∈ nt_nestF := List.mem_of_getElem? (i := 23) rfl
theorem nt_nf24 : ("NotTwice", 229, "NotTwice$Sheets", "size", "[I", "NotTwice") ∈ nt_nestF := List.mem_of_getElem? (i := 24) rfl
theorem nt_nm0 : ("NotTwice", 11, (⟨"NotTwice$Shelf", "<init>", "()V"⟩ : MethodName), "NotTwice") ∈ nt_nestM := List.mem_of_getElem? (i := 0) rfl
theorem nt_nm1 : ("NotTwice", 18, (⟨"NotTwice$Texts", "<init>", "()V"⟩ : MethodName), "NotTwice") ∈ nt_nestM := List.mem_of_getElem? (i := 1) rfl
theorem nt_nm2 : ("NotTwice", 25, (⟨"NotTwice$Reader", "<init>", "()V"⟩ : MethodName), "NotTwice") ∈ nt_nestM := List.mem_of_getElem? (i := 2) rfl
theorem nt_nm3 : ("NotTwice", 30, (⟨"NotTwice$Reader", "putFirstText", "()V"⟩ : MethodName), "NotTwice") ∈ nt_nestM := List.mem_of_getElem? (i := 3) rfl
theorem nt_nm4 : ("NotTwice", 33, (⟨"NotTwice$Reader", "reads", "()Z"⟩ : MethodName), "NotTwice") ∈ nt_nestM := List.mem_of_getElem? (i := 4) rfl
theorem nt_nm5 : ("NotTwice", 37, (⟨"NotTwice$Reader", "made", "()LNotTwice$Rule;"⟩ : MethodName), "NotTwice") ∈ nt_nestM := List.mem_of_getElem? (i := 5) rfl
theorem nt_nm6 : ("NotTwice$Reader", 49, (⟨"NotTwice$Rule", "<init>", "([IIII)V"⟩ : MethodName), "NotTwice") ∈ nt_nestM := List.mem_of_getElem? (i := 6) rfl
theorem nt_nm7 : ("NotTwice", 41, (⟨"NotTwice$Texts", "add", "(LNotTwice$Rule;)I"⟩ : MethodName), "NotTwice") ∈ nt_nestM := List.mem_of_getElem? (i := 7) rfl
theorem nt_nm8 : ("NotTwice", 45, (⟨"NotTwice$Reader", "empty", "()V"⟩ : MethodName), "NotTwice") ∈ nt_nestM := List.mem_of_getElem? (i := 8) rfl
theorem nt_nm9 : ("NotTwice", 50, (⟨"NotTwice$People", "<init>", "(LNotTwice$Shelf;LNotTwice$Texts;)V"⟩ : MethodName), "NotTwice") ∈ nt_nestM := List.mem_of_getElem? (i := 9) rfl
theorem nt_nm10 : ("NotTwice", 65, (⟨"NotTwice$Seating", "<init>", "(LNotTwice$People;)V"⟩ : MethodName), "NotTwice") ∈ nt_nestM := List.mem_of_getElem? (i := 10) rfl
theorem nt_nm11 : ("NotTwice", 74, (⟨"NotTwice$Sheets", "<init>", "()V"⟩ : MethodName), "NotTwice") ∈ nt_nestM := List.mem_of_getElem? (i := 11) rfl
theorem nt_nm12 : ("NotTwice", 83, (⟨"NotTwice$Shelf", "add", "(III)I"⟩ : MethodName), "NotTwice") ∈ nt_nestM := List.mem_of_getElem? (i := 12) rfl
theorem nt_nm13 : ("NotTwice", 86, (⟨"NotTwice$Shelf", "has", "(I)Z"⟩ : MethodName), "NotTwice") ∈ nt_nestM := List.mem_of_getElem? (i := 13) rfl
theorem nt_nm14 : ("NotTwice$Shelf", 28, (⟨"NotTwice", "isBelow", "(II)Z"⟩ : MethodName), "NotTwice") ∈ nt_nestM := List.mem_of_getElem? (i := 14) rfl
theorem nt_nm15 : ("NotTwice", 90, (⟨"NotTwice$Shelf", "join", "(II)V"⟩ : MethodName), "NotTwice") ∈ nt_nestM := List.mem_of_getElem? (i := 15) rfl
theorem nt_nm16 : ("NotTwice", 94, (⟨"NotTwice$People", "come", "(II)I"⟩ : MethodName), "NotTwice") ∈ nt_nestM := List.mem_of_getElem? (i := 16) rfl
theorem nt_nm17 : ("NotTwice$People", 42, (⟨"NotTwice", "isBelow", "(II)Z"⟩ : MethodName), "NotTwice") ∈ nt_nestM := List.mem_of_getElem? (i := 17) rfl
theorem nt_nm18 : ("NotTwice", 98, (⟨"NotTwice$People", "has", "(I)Z"⟩ : MethodName), "NotTwice") ∈ nt_nestM := List.mem_of_getElem? (i := 18) rfl
theorem nt_nm19 : ("NotTwice", 119, (⟨"NotTwice$People", "hear", "(II)V"⟩ : MethodName), "NotTwice") ∈ nt_nestM := List.mem_of_getElem? (i := 19) rfl
theorem nt_nm20 : ("NotTwice", 122, (⟨"NotTwice$People", "forget", "(II)V"⟩ : MethodName), "NotTwice") ∈ nt_nestM := List.mem_of_getElem? (i := 20) rfl
theorem nt_nm21 : ("NotTwice", 137, (⟨"NotTwice$Shelf", "stays", "(I)I"⟩ : MethodName), "NotTwice") ∈ nt_nestM := List.mem_of_getElem? (i := 21) rfl
theorem nt_nm22 : ("NotTwice", 141, (⟨"NotTwice$Shelf", "counts", "(II)I"⟩ : MethodName), "NotTwice") ∈ nt_nestM := List.mem_of_getElem? (i := 22) rfl
theorem nt_nm23 : ("NotTwice", 144, (⟨"NotTwice$People", "knows", "(I)I"⟩ : MethodName), "NotTwice") ∈ nt_nestM := List.mem_of_getElem? (i := 23) rfl
theorem nt_nm24 : ("NotTwice$People", 66, (⟨"NotTwice$Shelf", "withTwins", "(I)I"⟩ : MethodName), "NotTwice") ∈ nt_nestM := List.mem_of_getElem? (i := 24) rfl
theorem nt_nm25 : ("NotTwice", 147, (⟨"NotTwice$Reader", "put", "(I)I"⟩ : MethodName), "NotTwice") ∈ nt_nestM := List.mem_of_getElem? (i := 25) rfl
theorem nt_nm26 : ("NotTwice", 149, (⟨"NotTwice$Texts", "isFull", "()Z"⟩ : MethodName), "NotTwice") ∈ nt_nestM := List.mem_of_getElem? (i := 26) rfl
theorem nt_nm27 : ("NotTwice", 152, (⟨"NotTwice$Reader", "place", "()I"⟩ : MethodName), "NotTwice") ∈ nt_nestM := List.mem_of_getElem? (i := 27) rfl
theorem nt_nm28 : ("NotTwice", 156, (⟨"NotTwice$Texts", "has", "(I)Z"⟩ : MethodName), "NotTwice") ∈ nt_nestM := List.mem_of_getElem? (i := 28) rfl
theorem nt_nm29 : ("NotTwice$Texts", 30, (⟨"NotTwice", "isBelow", "(II)Z"⟩ : MethodName), "NotTwice") ∈ nt_nestM := List.mem_of_getElem? (i := 29) rfl
theorem nt_nm30 : ("NotTwice", 161, (⟨"NotTwice$People", "tellableIn", "(I)I"⟩ : MethodName), "NotTwice") ∈ nt_nestM := List.mem_of_getElem? (i := 30) rfl
theorem nt_nm31 : ("NotTwice$People", 84, (⟨"NotTwice$Shelf", "all", "()I"⟩ : MethodName), "NotTwice") ∈ nt_nestM := List.mem_of_getElem? (i := 31) rfl
theorem nt_nm32 : ("NotTwice$People", 131, (⟨"NotTwice$Texts", "at", "(I)LNotTwice$Rule;"⟩ : MethodName), "NotTwice") ∈ nt_nestM := List.mem_of_getElem? (i := 32) rfl
theorem nt_nm33 : ("NotTwice$People", 140, (⟨"NotTwice$Shelf", "counts", "(II)I"⟩ : MethodName), "NotTwice") ∈ nt_nestM := List.mem_of_getElem? (i := 33) rfl
theorem nt_nm34 : ("NotTwice$People", 151, (⟨"NotTwice$Rule", "value", "(I[I[I)I"⟩ : MethodName), "NotTwice") ∈ nt_nestM := List.mem_of_getElem? (i := 34) rfl
theorem nt_nm35 : ("NotTwice", 164, (⟨"NotTwice$People", "byWhom", "(II)I"⟩ : MethodName), "NotTwice") ∈ nt_nestM := List.mem_of_getElem? (i := 35) rfl
theorem nt_nm36 : ("NotTwice", 167, (⟨"NotTwice$People", "worthOf", "(II)J"⟩ : MethodName), "NotTwice") ∈ nt_nestM := List.mem_of_getElem? (i := 36) rfl
theorem nt_nm37 : ("NotTwice", 173, (⟨"NotTwice$People", "bestOf", "(I)I"⟩ : MethodName), "NotTwice") ∈ nt_nestM := List.mem_of_getElem? (i := 37) rfl
theorem nt_nm38 : ("NotTwice", 176, (⟨"NotTwice$People", "spend", "(II)I"⟩ : MethodName), "NotTwice") ∈ nt_nestM := List.mem_of_getElem? (i := 38) rfl
theorem nt_nm39 : ("NotTwice", 179, (⟨"NotTwice$People", "sleep", "()V"⟩ : MethodName), "NotTwice") ∈ nt_nestM := List.mem_of_getElem? (i := 39) rfl
theorem nt_nm40 : ("NotTwice$People", 125, (⟨"NotTwice$Shelf", "stays", "(I)I"⟩ : MethodName), "NotTwice") ∈ nt_nestM := List.mem_of_getElem? (i := 40) rfl
theorem nt_nm41 : ("NotTwice", 185, (⟨"NotTwice$People", "unheardIn", "(I)I"⟩ : MethodName), "NotTwice") ∈ nt_nestM := List.mem_of_getElem? (i := 41) rfl
theorem nt_nm42 : ("NotTwice", 209, (⟨"NotTwice$People", "takeAll", "(LNotTwice$People;)V"⟩ : MethodName), "NotTwice") ∈ nt_nestM := List.mem_of_getElem? (i := 42) rfl
theorem nt_nm43 : ("NotTwice", 196, (⟨"NotTwice$Seating", "waysOver", "(I)I"⟩ : MethodName), "NotTwice") ∈ nt_nestM := List.mem_of_getElem? (i := 43) rfl
theorem nt_nm44 : ("NotTwice", 199, (⟨"NotTwice$Seating", "search", "(I)V"⟩ : MethodName), "NotTwice") ∈ nt_nestM := List.mem_of_getElem? (i := 44) rfl
theorem nt_nm45 : ("NotTwice$Seating", 72, (⟨"NotTwice$People", "knows", "(I)I"⟩ : MethodName), "NotTwice") ∈ nt_nestM := List.mem_of_getElem? (i := 45) rfl
theorem nt_nm46 : ("NotTwice$Seating", 85, (⟨"NotTwice$Shelf", "all", "()I"⟩ : MethodName), "NotTwice") ∈ nt_nestM := List.mem_of_getElem? (i := 46) rfl
theorem nt_nm47 : ("NotTwice$Seating", 92, (⟨"NotTwice$People", "value", "(IIII)I"⟩ : MethodName), "NotTwice") ∈ nt_nestM := List.mem_of_getElem? (i := 47) rfl
theorem nt_nm48 : ("NotTwice", 215, (⟨"NotTwice$People", "tellableBy", "(I)I"⟩ : MethodName), "NotTwice") ∈ nt_nestM := List.mem_of_getElem? (i := 48) rfl
theorem nt_nm49 : ("NotTwice", 218, (⟨"NotTwice$People", "sit", "(III)V"⟩ : MethodName), "NotTwice") ∈ nt_nestM := List.mem_of_getElem? (i := 49) rfl
theorem nt_nm50 : ("NotTwice", 222, (⟨"NotTwice$Shelf", "all", "()I"⟩ : MethodName), "NotTwice") ∈ nt_nestM := List.mem_of_getElem? (i := 50) rfl
theorem nt_nm51 : ("NotTwice", 225, (⟨"NotTwice$Sheets", "has", "(I)Z"⟩ : MethodName), "NotTwice") ∈ nt_nestM := List.mem_of_getElem? (i := 51) rfl
theorem nt_nm52 : ("NotTwice$Sheets", 21, (⟨"NotTwice", "isBelow", "(II)Z"⟩ : MethodName), "NotTwice") ∈ nt_nestM := List.mem_of_getElem? (i := 52) rfl
theorem nt_nm53 : ("NotTwice", 226, (⟨"NotTwice$Sheets", "isMissing", "(I)Z"⟩ : MethodName), "NotTwice") ∈ nt_nestM := List.mem_of_getElem? (i := 53) rfl
theorem nt_nm54 : ("NotTwice", 231, (⟨"NotTwice$Sheets", "at", "(II)I"⟩ : MethodName), "NotTwice") ∈ nt_nestM := List.mem_of_getElem? (i := 54) rfl
theorem nt_nm55 : ("NotTwice", 239, (⟨"NotTwice$People", "goBackTo", "(LNotTwice$People;)V"⟩ : MethodName), "NotTwice") ∈ nt_nestM := List.mem_of_getElem? (i := 55) rfl
theorem nt_nm56 : ("NotTwice", 245, (⟨"NotTwice$Sheets", "lay", "(III)V"⟩ : MethodName), "NotTwice") ∈ nt_nestM := List.mem_of_getElem? (i := 56) rfl
theorem nt_nm57 : ("NotTwice", 248, (⟨"NotTwice$Sheets", "reaches", "(II)Z"⟩ : MethodName), "NotTwice") ∈ nt_nestM := List.mem_of_getElem? (i := 57) rfl
theorem nt_nm58 : ("NotTwice", 251, (⟨"NotTwice$Sheets", "write", "(III)V"⟩ : MethodName), "NotTwice") ∈ nt_nestM := List.mem_of_getElem? (i := 58) rfl
theorem nt_nm59 : ("NotTwice", 257, (⟨"NotTwice$Sheets", "hasRun", "(III)Z"⟩ : MethodName), "NotTwice") ∈ nt_nestM := List.mem_of_getElem? (i := 59) rfl
theorem nt_nm60 : ("NotTwice", 261, (⟨"NotTwice$Sheets", "carry", "(IIIII)V"⟩ : MethodName), "NotTwice") ∈ nt_nestM := List.mem_of_getElem? (i := 60) rfl
theorem nt_nm61 : ("NotTwice", 265, (⟨"NotTwice$Shelf", "isUnder", "(II)Z"⟩ : MethodName), "NotTwice") ∈ nt_nestM := List.mem_of_getElem? (i := 61) rfl
/-- the words of private members that classes of one nest share -/
def nt_N (U : State) : Prop := (∀ q ∈ nt_nestF, va_Nw (.fieldLinkNest q.1 q.2.1 q.2.2.1 q.2.2.2.1 q.2.2.2.2.1 q.2.2.2.2.2) U) ∧ ∀ q ∈ nt_nestM, va_Nw (.methodLinkNest q.1 q.2.1 q.2.2.1 q.2.2.2) U
theorem nt_N_warm {s U : State} (hW : s.WarmedH U.vm) (h : nt_N s) : nt_N U := ⟨fun q hq => va_Nw.warmF hW (h.1 q hq), fun q hq => va_Nw.warmM hW (h.2 q hq)⟩
theorem nt_N_same {s U : State} (hv : s.vm = U.vm) (h : nt_N s) : nt_N U := ⟨fun q hq => va_Nw.same rfl hv (h.1 q hq), fun q hq => va_Nw.same rfl hv (h.2 q hq)⟩
def nt_under (j : Nat) : Value := .int ([-1, 0, 0, 1, 2, 1].getD j 0)

def nt_len : List Nat := [64, 59, 8]
def nt_byt : List (List Int32) := [[108, 105, 107, 101, 115, 32, 119, 111, 114, 116, 104, 32, 43, 32, 40, 32, 97, 103, 101, 32, 60, 32, 49, 52, 32, 41, 32, 42, 32, 50, 32, 59, 32, 112, 97, 121, 115, 32, 48, 32, 45, 32, 109, 97, 110, 121, 32, 59, 32, 116, 105, 114, 101, 115, 32, 111, 119, 110, 32, 60, 32, 49, 32, 59], [97, 103, 101, 32, 119, 111, 114, 116, 104, 32, 104, 101, 97, 114, 100, 32, 109, 97, 110, 121, 32, 110, 105, 103, 104, 116, 32, 111, 119, 110, 32, 111, 114, 32, 97, 110, 100, 32, 110, 111, 116, 32, 108, 105, 107, 101, 115, 32, 112, 97, 121, 115, 32, 116, 105, 114, 101, 115, 32], [40, 41, 59, 43, 45, 42, 60, 61]]
/-- constants outside the world: nest words, statics, texts -/
def nt_Z (zk : Nat → Nat) (zf : Value) (A : Nat → Prop) (U : State) (H : Heap) : Prop :=
  nt_N U ∧ va_Z RX5 "UNDER" "[I" (.ref (zk 0)) A U H ∧ va_T .int (zk 0) 6 nt_under A U H ∧ va_Z RJ0 "COMPACT_STRINGS" "Z" (.int 1) A U H ∧ va_Z RJ3 "SIOOBE_FORMATTER" "Ljava/util/function/BiFunction;" zf A U H ∧ vk_S 3 nt_len nt_byt (fun i => zk (1 + i)) (fun i => zk (4 + i)) A U H ∧ vk_R RX1 25 "likes worth + ( age < 14 ) * 2 ; pays 0 - many ; tires own < 1 ;" (zk 1) U ∧ vk_R RX1 104 "age worth heard many night own or and not likes pays tires " (zk 2) U ∧ vk_R RX1 99 "();+-*<=" (zk 3) U
theorem nt_Z_go {zk : Nat → Nat} {zf : Value} {A B : Nat → Prop} {s U : State} {H : Heap} {locs : List Loc} (h : nt_Z zk zf A s s.heap) (hW : s.WarmedH U.vm) (hAB : ∀ q, B q → A q) (hS : va_S A s.heap H locs) : nt_Z zk zf B U H := by
  obtain ⟨h1, h2, h3, h4, h5, h6, h7, h8, h9⟩ := h
  exact ⟨nt_N_warm hW h1, ((h2.moved hW.alike).kept hS.2.1).narrow hAB, ((h3.moved hW.alike).kept hS.2.1).narrow hAB, ((h4.moved hW.alike).kept hS.2.1).narrow hAB, ((h5.moved hW.alike).kept hS.2.1).narrow hAB, ((h6.moved hW.alike).kept hS.2.1).narrow hAB, vk_R.warm hW h7, vk_R.warm hW h8, vk_R.warm hW h9⟩
theorem nt_Z_blind {zk : Nat → Nat} {zf : Value} {A : Nat → Prop} {U : State} {g : JFrame} {mk : MethodId} {a : Array Value} (h : nt_Z zk zf A U U.heap) : nt_Z zk zf A (U.calling g mk a) (U.calling g mk a).heap := by
  obtain ⟨h1, h2, h3, h4, h5, h6, h7, h8, h9⟩ := h
  have hv : U.vm.Alike (U.calling g mk a).vm := Vm.Alike.refl U.vm
  exact ⟨nt_N_same (U := U.calling g mk a) rfl h1, va_Z.moved hv h2, va_T.moved hv h3, va_Z.moved hv h4, va_Z.moved hv h5, vk_S.moved hv h6, vk_R.same (U := U.calling g mk a) rfl h7, vk_R.same (U := U.calling g mk a) rfl h8, vk_R.same (U := U.calling g mk a) rfl h9⟩

def nt_ws (y : MethodName) (cc : ByteArray) (nL : Nat) (ret : Option FieldType) : List Cond := .code y cc nL ret :: nt_tbl
theorem nt_ws_good {y : MethodName} {cc : ByteArray} {nL : Nat} {ret : Option FieldType} (h : Cond.code y cc nL ret ∈ nt_tbl) : GoodIn nt_tbl (nt_ws y cc nL ret) := by
  intro w hw
  have hm : w ∈ nt_tbl := by
    rcases List.mem_cons.mp hw with rfl | hw
    · exact h
    · exact hw
  exact ⟨hm, good_of_word (nt_good w hm)⟩
/-- the room of a method under which calls go d deep and nothing is made -/
def nt_rm (d : Nat) : Room := { frames := d, cells := 0, slots := 0, locals := 60 * d }
/-- what a method finds -/
def nt_P (w : nt_w) (g : nt_T) (sz : Nat) (U : State) : Prop := U.heap.size = sz ∧ va_P w.1 vwCl (nt_W w g) U.heap ∧ va_K w.1 vwCl w.2.1 U ∧ va_D (fun _ => True) (nt_W w g) ∧ nt_Z w.2.2.1 w.2.2.2.1 (va_A (nt_W w g) sz) U U.heap
/-- what it leaves -/
def nt_B (w : nt_w) (u : nt_T) (t : State) : Prop := va_P w.1 vwCl (nt_W w u) t.heap
/-- the contracts of methods that make nothing: an int (boolean, char), a long, nothing comes back -/
def nt_Mi (l : Launch) (w : nt_w) (y : MethodName) (cc : ByteArray) (nL : Nat) (ret : Option FieldType) (d : Nat) (av : List Value) (g : nt_T) (r : Int32) (g' : nt_T) : Prop := ∀ sz : Nat, Met l y (nt_ws y cc nL ret) (nt_rm d) (va_Pc av (nt_P w g sz)) (va_Qi (fun (r' : Int32) (u : nt_T) => r' = r ∧ u = g') (nt_B w) (va_A (nt_W w g) sz)) 0 0 (va_A (nt_W w g) sz)
def nt_Ml (l : Launch) (w : nt_w) (y : MethodName) (cc : ByteArray) (nL : Nat) (ret : Option FieldType) (d : Nat) (av : List Value) (g : nt_T) (r : Int64) (g' : nt_T) : Prop := ∀ sz : Nat, Met l y (nt_ws y cc nL ret) (nt_rm d) (va_Pc av (nt_P w g sz)) (va_Ql (fun (r' : Int64) (u : nt_T) => r' = r ∧ u = g') (nt_B w) (va_A (nt_W w g) sz)) 0 0 (va_A (nt_W w g) sz)
def nt_Mv (l : Launch) (w : nt_w) (y : MethodName) (cc : ByteArray) (nL : Nat) (ret : Option FieldType) (d : Nat) (av : List Value) (g : nt_T) (g' : nt_T) : Prop := ∀ sz : Nat, Met l y (nt_ws y cc nL ret) (nt_rm d) (va_Pc av (nt_P w g sz)) (va_Qv (fun (u : nt_T) => u = g') (nt_B w) (va_A (nt_W w g) sz)) 0 0 (va_A (nt_W w g) sz)
/-- what stands still while a method runs -/
def nt_X (cc : ByteArray) (nL : Nat) (own : String) (ret : Option FieldType) (w : nt_w) (A : Nat → Prop) (p : Program) (s : State) (m : MethodId) (args : Array Value) (meth : Method) (c : Code) : Prop :=
  p.tables.exec = Jvm.exec ∧ c.code = cc ∧ c.maxLocals = nL ∧ s.vm.findClass own = some m.cls ∧ (∀ q ∈ nt_tbl, q.before args s = true) ∧ meth.locks = false ∧ meth.sig.returnType = ret ∧ va_K w.1 vwCl w.2.1 s ∧ (∀ q, s.heap.size ≤ q → A q) ∧ nt_Z w.2.2.1 w.2.2.2.1 A s s.heap
/-- the machine at pc, with these locals, this stack, this world, comes to Q -/
def nt_G (p : Program) (l : Launch) (e : Env) (R : Room) (s : State) (m : MethodId) (args : Array Value) (below : List Frame) (meth : Method) (c : Code) (w : nt_w) (A : Nat → Prop) (cells slots : Nat) (Q : State → Prop) (nL : Nat) (pc : Nat) (lv : List (Nat × Value)) (st : List Value) (g : nt_T) : Prop :=
  ∀ (H : Heap) (locs : List Loc) (ls : Array Slot), va_P w.1 vwCl (nt_W w g) H → va_D A (nt_W w g) → va_S A s.heap H locs → lv_has ls nL lv → W p l e R s m args below meth c H locs cells slots Q (F0 m pc ls st)
/-- a computation that comes to something with Q -/
def nt_R {α : Type} (o : Option α) (Q : α → Prop) : Prop := ∃ x, o = some x ∧ Q x
def nt_gd {α : Type} (c : Bool) (o : Option α) : Option α := if c = true then o else none
def nt_lt {α β : Type} (a : α) (f : α → Option β) : Option β := f a
def nt_b1 {α β : Type} (o : Option α) (f : α → Option β) : Option β := match o with
  | none => none
  | some a => f a
def nt_b2 {α γ β : Type} (o : Option (α × γ)) (f : α → γ → Option β) : Option β := match o with
  | none => none
  | some a => f a.1 a.2
/-- a loop with fuel: its body goes on with a state, or leaves with something -/
def nt_it {S X : Type} (body : S → Option (S ⊕ X)) : Nat → S → Option X
  | 0, _ => none
  | n + 1, s => match body s with
    | none => none
    | some (.inl s') => nt_it body n s'
    | some (.inr x) => some x
def nt_fu : Nat := 5000
def nt_in (i : Int32) (n : Nat) : Bool := decide (¬ i < 0) && decide (i.toNatClampNeg < n)
theorem nt_in_vp {i : Int32} {n : Nat} (h : nt_in i n = true) : vp_in i n := by
  simp only [nt_in, Bool.and_eq_true, decide_eq_true_eq] at h
  intro q
  rcases q with q | q
  · exact h.1 q
  · exact absurd h.2 (Nat.not_lt.mpr q)
theorem nt_R_none {α : Type} {Q : α → Prop} {P : Prop} (h : nt_R none Q) : P := by
  obtain ⟨x, h1, -⟩ := h
  cases h1
theorem nt_R_some {α : Type} {Q : α → Prop} {a : α} (h : nt_R (some a) Q) : Q a := by
  obtain ⟨x, h1, h2⟩ := h
  cases h1
  exact h2
theorem nt_R_gd {α : Type} {Q : α → Prop} {c : Bool} {o : Option α} (h : nt_R (nt_gd c o) Q) : c = true ∧ nt_R o Q := by
  by_cases hc : c = true
  · rw [nt_gd, if_pos hc] at h
    exact ⟨hc, h⟩
  · rw [nt_gd, if_neg hc] at h
    exact nt_R_none h
theorem nt_R_if {α : Type} {Q : α → Prop} {c : Prop} {_ : Decidable c} {a b : Option α} (h : nt_R (if c then a else b) Q) : (c → nt_R a Q) ∧ (¬ c → nt_R b Q) :=
  ⟨fun hc => by rw [if_pos hc] at h; exact h, fun hc => by rw [if_neg hc] at h; exact h⟩
theorem nt_R_lt {α β : Type} {Q : β → Prop} {a : α} {f : α → Option β} (h : nt_R (nt_lt a f) Q) : ∃ x, a = x ∧ nt_R (f x) Q := ⟨a, rfl, h⟩
theorem nt_R_b1 {α β : Type} {Q : β → Prop} {o : Option α} {f : α → Option β} (h : nt_R (nt_b1 o f) Q) : ∃ x, o = some x ∧ nt_R (f x) Q := by
  cases o with
  | none => exact nt_R_none h
  | some a => exact ⟨a, rfl, h⟩
theorem nt_R_b2 {α γ β : Type} {Q : β → Prop} {o : Option (α × γ)} {f : α → γ → Option β} (h : nt_R (nt_b2 o f) Q) : ∃ x y, o = some (x, y) ∧ nt_R (f x y) Q := by
  cases o with
  | none => exact nt_R_none h
  | some a => exact ⟨a.1, a.2, rfl, h⟩
def nt_Qz {S X : Type} (body : S → Option (S ⊕ X)) (n : Nat) (Q : X → Prop) : S ⊕ X → Prop
  | .inl s => nt_R (nt_it body n s) Q
  | .inr x => Q x
theorem nt_R_it {S X : Type} {body : S → Option (S ⊕ X)} {n : Nat} {s : S} {Q : X → Prop} (h : nt_R (nt_it body (n + 1) s) Q) : nt_R (body s) (nt_Qz body n Q) := by
  obtain ⟨x, h1, h2⟩ := h
  rw [nt_it] at h1
  cases hb : body s with
  | none => rw [hb] at h1; cases h1
  | some z =>
    rw [hb] at h1
    cases z with
    | inl s' => exact ⟨_, rfl, ⟨x, h1, h2⟩⟩
    | inr y => cases h1; exact ⟨_, rfl, h2⟩

abbrev nt_Qi (w : nt_w) (A : Nat → Prop) (below : List Frame) (args : Array Value) (s : State) (r : Int32) (g2 : nt_T) : State → Prop := MQ below (va_Qi (fun (r' : Int32) (u : nt_T) => r' = r ∧ u = g2) (nt_B w) A) args s 0 0 A
abbrev nt_Ql (w : nt_w) (A : Nat → Prop) (below : List Frame) (args : Array Value) (s : State) (r : Int64) (g2 : nt_T) : State → Prop := MQ below (va_Ql (fun (r' : Int64) (u : nt_T) => r' = r ∧ u = g2) (nt_B w) A) args s 0 0 A
abbrev nt_Qv (w : nt_w) (A : Nat → Prop) (below : List Frame) (args : Array Value) (s : State) (g2 : nt_T) : State → Prop := MQ below (va_Qv (fun (u : nt_T) => u = g2) (nt_B w) A) args s 0 0 A
section NT
variable {p : Program} {l : Launch} {e : Env} {R : Room} {s : State} {m : MethodId} {args : Array Value} {below : List Frame} {meth : Method} {c : Code} {cells slots : Nat} {Q : State → Prop}
variable {cc : ByteArray} {nL : Nat} {own : String} {ret : Option FieldType} {w : nt_w} {A : Nat → Prop} {g : nt_T} {pc : Nat} {lv : List (Nat × Value)} {rest : List Value}
theorem nt_iconst (X : nt_X cc nL own ret w A p s m args meth c) {n : Int} {v : Int32} (d : decode cc pc = .ok (.iconst n, 1)) (hv : Int32.ofInt n = v) (k : nt_G p l e R s m args below meth c w A cells slots Q nL (pc + 1) lv (.int v :: rest) g) : nt_G p l e R s m args below meth c w A cells slots Q nL pc lv (rest) g := fun H locs ls hP hD hS hl => lv_iconst X.1 X.2.1 d hv (k H locs ls hP hD hS hl)
theorem nt_bipush (X : nt_X cc nL own ret w A p s m args meth c) {n : Int} {v : Int32} (d : decode cc pc = .ok (.bipush n, 2)) (hv : (Int8.ofInt n).toInt32 = v) (k : nt_G p l e R s m args below meth c w A cells slots Q nL (pc + 2) lv (.int v :: rest) g) : nt_G p l e R s m args below meth c w A cells slots Q nL pc lv (rest) g := fun H locs ls hP hD hS hl => lv_bipush X.1 X.2.1 d hv (k H locs ls hP hD hS hl)
theorem nt_sipush (X : nt_X cc nL own ret w A p s m args meth c) {n : Int} {v : Int32} (d : decode cc pc = .ok (.sipush n, 3)) (hv : (Int16.ofInt n).toInt32 = v) (k : nt_G p l e R s m args below meth c w A cells slots Q nL (pc + 3) lv (.int v :: rest) g) : nt_G p l e R s m args below meth c w A cells slots Q nL pc lv (rest) g := fun H locs ls hP hD hS hl => lv_sipush X.1 X.2.1 d hv (k H locs ls hP hD hS hl)
theorem nt_lconst (X : nt_X cc nL own ret w A p s m args meth c) {n : Fin 2} {v : Int64} (d : decode cc pc = .ok (.lconst n, 1)) (hv : Int64.ofNat (n : Nat) = v) (k : nt_G p l e R s m args below meth c w A cells slots Q nL (pc + 1) lv (.long v :: rest) g) : nt_G p l e R s m args below meth c w A cells slots Q nL pc lv (rest) g := fun H locs ls hP hD hS hl => lv_lconst X.1 X.2.1 d hv (k H locs ls hP hD hS hl)
theorem nt_iload_n (X : nt_X cc nL own ret w A p s m args meth c) {q : Fin 4} {i : Nat} {x : Int32} (d : decode cc pc = .ok (.iload_n q, 1)) (hi : (q : Nat) = i) (z : Nat) (hz : lv[z]? = some (i, .int x)) (k : nt_G p l e R s m args below meth c w A cells slots Q nL (pc + 1) lv (.int x :: rest) g) : nt_G p l e R s m args below meth c w A cells slots Q nL pc lv rest g := fun H locs ls hP hD hS hl => lv_iload_n X.1 X.2.1 d hi (lv_at hl z hz) (k H locs ls hP hD hS hl)
theorem nt_iload (X : nt_X cc nL own ret w A p s m args meth c) {i : Nat} {x : Int32} (d : decode cc pc = .ok (.iload i, 2)) (z : Nat) (hz : lv[z]? = some (i, .int x)) (k : nt_G p l e R s m args below meth c w A cells slots Q nL (pc + 2) lv (.int x :: rest) g) : nt_G p l e R s m args below meth c w A cells slots Q nL pc lv rest g := fun H locs ls hP hD hS hl => lv_iload X.1 X.2.1 d (lv_at hl z hz) (k H locs ls hP hD hS hl)
theorem nt_istore_n (X : nt_X cc nL own ret w A p s m args meth c) {q : Fin 4} {i : Nat} {x : Int32} (lv2 : List (Nat × Value)) (d : decode cc pc = .ok (.istore_n q, 1)) (hi : (q : Nat) = i) (hn : i < nL) (hl2 : (i, Value.int x) :: lv.filter (fun q => !(q.1 == i) && !(q.1 + 1 == i && q.2.category == 2)) = lv2) (k : nt_G p l e R s m args below meth c w A cells slots Q nL (pc + 1) lv2 rest g) : nt_G p l e R s m args below meth c w A cells slots Q nL pc lv (.int x :: rest) g := fun H locs ls hP hD hS hl => lv_istore_n X.1 X.2.1 d hi hl hn hl2 (fun ls hl => (k H locs ls hP hD hS hl))
theorem nt_istore (X : nt_X cc nL own ret w A p s m args meth c) {i : Nat} {x : Int32} (lv2 : List (Nat × Value)) (d : decode cc pc = .ok (.istore i, 2)) (hn : i < nL) (hl2 : (i, Value.int x) :: lv.filter (fun q => !(q.1 == i) && !(q.1 + 1 == i && q.2.category == 2)) = lv2) (k : nt_G p l e R s m args below meth c w A cells slots Q nL (pc + 2) lv2 rest g) : nt_G p l e R s m args below meth c w A cells slots Q nL pc lv (.int x :: rest) g := fun H locs ls hP hD hS hl => lv_istore X.1 X.2.1 d hl hn hl2 (fun ls hl => (k H locs ls hP hD hS hl))
theorem nt_lload_n (X : nt_X cc nL own ret w A p s m args meth c) {q : Fin 4} {i : Nat} {x : Int64} (d : decode cc pc = .ok (.lload_n q, 1)) (hi : (q : Nat) = i) (z : Nat) (hz : lv[z]? = some (i, .long x)) (k : nt_G p l e R s m args below meth c w A cells slots Q nL (pc + 1) lv (.long x :: rest) g) : nt_G p l e R s m args below meth c w A cells slots Q nL pc lv rest g := fun H locs ls hP hD hS hl => lv_lload_n X.1 X.2.1 d hi (lv_at hl z hz) (k H locs ls hP hD hS hl)
theorem nt_lload (X : nt_X cc nL own ret w A p s m args meth c) {i : Nat} {x : Int64} (d : decode cc pc = .ok (.lload i, 2)) (z : Nat) (hz : lv[z]? = some (i, .long x)) (k : nt_G p l e R s m args below meth c w A cells slots Q nL (pc + 2) lv (.long x :: rest) g) : nt_G p l e R s m args below meth c w A cells slots Q nL pc lv rest g := fun H locs ls hP hD hS hl => lv_lload X.1 X.2.1 d (lv_at hl z hz) (k H locs ls hP hD hS hl)
theorem nt_lstore_n (X : nt_X cc nL own ret w A p s m args meth c) {q : Fin 4} {i : Nat} {x : Int64} (lv2 : List (Nat × Value)) (d : decode cc pc = .ok (.lstore_n q, 1)) (hi : (q : Nat) = i) (hn : i + 1 < nL) (hl2 : (i, Value.long x) :: lv.filter (fun q => !(q.1 == i) && (!(q.1 == i + 1) && !(q.1 + 1 == i && q.2.category == 2))) = lv2) (k : nt_G p l e R s m args below meth c w A cells slots Q nL (pc + 1) lv2 rest g) : nt_G p l e R s m args below meth c w A cells slots Q nL pc lv (.long x :: rest) g := fun H locs ls hP hD hS hl => lv_lstore_n X.1 X.2.1 d hi hl hn hl2 (fun ls hl => (k H locs ls hP hD hS hl))
theorem nt_lstore (X : nt_X cc nL own ret w A p s m args meth c) {i : Nat} {x : Int64} (lv2 : List (Nat × Value)) (d : decode cc pc = .ok (.lstore i, 2)) (hn : i + 1 < nL) (hl2 : (i, Value.long x) :: lv.filter (fun q => !(q.1 == i) && (!(q.1 == i + 1) && !(q.1 + 1 == i && q.2.category == 2))) = lv2) (k : nt_G p l e R s m args below meth c w A cells slots Q nL (pc + 2) lv2 rest g) : nt_G p l e R s m args below meth c w A cells slots Q nL pc lv (.long x :: rest) g := fun H locs ls hP hD hS hl => lv_lstore X.1 X.2.1 d hl hn hl2 (fun ls hl => (k H locs ls hP hD hS hl))
theorem nt_aload_n (X : nt_X cc nL own ret w A p s m args meth c) {q : Fin 4} {i : Nat} {x : Nat} (d : decode cc pc = .ok (.aload_n q, 1)) (hi : (q : Nat) = i) (z : Nat) (hz : lv[z]? = some (i, .ref x)) (k : nt_G p l e R s m args below meth c w A cells slots Q nL (pc + 1) lv (.ref x :: rest) g) : nt_G p l e R s m args below meth c w A cells slots Q nL pc lv rest g := fun H locs ls hP hD hS hl => lv_aload_n X.1 X.2.1 d hi (lv_at hl z hz) (k H locs ls hP hD hS hl)
theorem nt_aload (X : nt_X cc nL own ret w A p s m args meth c) {i : Nat} {x : Nat} (d : decode cc pc = .ok (.aload i, 2)) (z : Nat) (hz : lv[z]? = some (i, .ref x)) (k : nt_G p l e R s m args below meth c w A cells slots Q nL (pc + 2) lv (.ref x :: rest) g) : nt_G p l e R s m args below meth c w A cells slots Q nL pc lv rest g := fun H locs ls hP hD hS hl => lv_aload X.1 X.2.1 d (lv_at hl z hz) (k H locs ls hP hD hS hl)
theorem nt_astore_n (X : nt_X cc nL own ret w A p s m args meth c) {q : Fin 4} {i : Nat} {x : Nat} (lv2 : List (Nat × Value)) (d : decode cc pc = .ok (.astore_n q, 1)) (hi : (q : Nat) = i) (hn : i < nL) (hl2 : (i, Value.ref x) :: lv.filter (fun q => !(q.1 == i) && !(q.1 + 1 == i && q.2.category == 2)) = lv2) (k : nt_G p l e R s m args below meth c w A cells slots Q nL (pc + 1) lv2 rest g) : nt_G p l e R s m args below meth c w A cells slots Q nL pc lv (.ref x :: rest) g := fun H locs ls hP hD hS hl => lv_astore_n X.1 X.2.1 d hi hl hn hl2 (fun ls hl => (k H locs ls hP hD hS hl))
theorem nt_astore (X : nt_X cc nL own ret w A p s m args meth c) {i : Nat} {x : Nat} (lv2 : List (Nat × Value)) (d : decode cc pc = .ok (.astore i, 2)) (hn : i < nL) (hl2 : (i, Value.ref x) :: lv.filter (fun q => !(q.1 == i) && !(q.1 + 1 == i && q.2.category == 2)) = lv2) (k : nt_G p l e R s m args below meth c w A cells slots Q nL (pc + 2) lv2 rest g) : nt_G p l e R s m args below meth c w A cells slots Q nL pc lv (.ref x :: rest) g := fun H locs ls hP hD hS hl => lv_astore X.1 X.2.1 d hl hn hl2 (fun ls hl => (k H locs ls hP hD hS hl))
theorem nt_iinc (X : nt_X cc nL own ret w A p s m args meth c) {i : Nat} {n : Int} {x : Int32} (v : Int32) (lv2 : List (Nat × Value)) (d : decode cc pc = .ok (.iinc i n, 3)) (z : Nat) (hz : lv[z]? = some (i, .int x)) (hv : x + Int32.ofInt n = v) (hn : i < nL) (hl2 : (i, Value.int v) :: lv.filter (fun q => !(q.1 == i) && !(q.1 + 1 == i && q.2.category == 2)) = lv2) (k : nt_G p l e R s m args below meth c w A cells slots Q nL (pc + 3) lv2 rest g) : nt_G p l e R s m args below meth c w A cells slots Q nL pc lv rest g := fun H locs ls hP hD hS hl => lv_iinc X.1 X.2.1 d hl hz hv hn hl2 (fun ls hl => (k H locs ls hP hD hS hl))
theorem nt_iadd (X : nt_X cc nL own ret w A p s m args meth c) {x y : Int32} (d : decode cc pc = .ok (.iadd, 1)) (k : nt_G p l e R s m args below meth c w A cells slots Q nL (pc + 1) lv (.int (x + y) :: rest) g) : nt_G p l e R s m args below meth c w A cells slots Q nL pc lv (.int y :: .int x :: rest) g := fun H locs ls hP hD hS hl => lv_iadd X.1 X.2.1 d (k H locs ls hP hD hS hl)
theorem nt_isub (X : nt_X cc nL own ret w A p s m args meth c) {x y : Int32} (d : decode cc pc = .ok (.isub, 1)) (k : nt_G p l e R s m args below meth c w A cells slots Q nL (pc + 1) lv (.int (x - y) :: rest) g) : nt_G p l e R s m args below meth c w A cells slots Q nL pc lv (.int y :: .int x :: rest) g := fun H locs ls hP hD hS hl => lv_isub X.1 X.2.1 d (k H locs ls hP hD hS hl)
theorem nt_imul (X : nt_X cc nL own ret w A p s m args meth c) {x y : Int32} (d : decode cc pc = .ok (.imul, 1)) (k : nt_G p l e R s m args below meth c w A cells slots Q nL (pc + 1) lv (.int (x * y) :: rest) g) : nt_G p l e R s m args below meth c w A cells slots Q nL pc lv (.int y :: .int x :: rest) g := fun H locs ls hP hD hS hl => lv_imul X.1 X.2.1 d (k H locs ls hP hD hS hl)
theorem nt_iand (X : nt_X cc nL own ret w A p s m args meth c) {x y : Int32} (d : decode cc pc = .ok (.iand, 1)) (k : nt_G p l e R s m args below meth c w A cells slots Q nL (pc + 1) lv (.int (x &&& y) :: rest) g) : nt_G p l e R s m args below meth c w A cells slots Q nL pc lv (.int y :: .int x :: rest) g := fun H locs ls hP hD hS hl => lv_iand X.1 X.2.1 d (k H locs ls hP hD hS hl)
theorem nt_ior (X : nt_X cc nL own ret w A p s m args meth c) {x y : Int32} (d : decode cc pc = .ok (.ior, 1)) (k : nt_G p l e R s m args below meth c w A cells slots Q nL (pc + 1) lv (.int (x ||| y) :: rest) g) : nt_G p l e R s m args below meth c w A cells slots Q nL pc lv (.int y :: .int x :: rest) g := fun H locs ls hP hD hS hl => lv_ior X.1 X.2.1 d (k H locs ls hP hD hS hl)
theorem nt_ixor (X : nt_X cc nL own ret w A p s m args meth c) {x y : Int32} (d : decode cc pc = .ok (.ixor, 1)) (k : nt_G p l e R s m args below meth c w A cells slots Q nL (pc + 1) lv (.int (x ^^^ y) :: rest) g) : nt_G p l e R s m args below meth c w A cells slots Q nL pc lv (.int y :: .int x :: rest) g := fun H locs ls hP hD hS hl => lv_ixor X.1 X.2.1 d (k H locs ls hP hD hS hl)
theorem nt_ishl (X : nt_X cc nL own ret w A p s m args meth c) {x y : Int32} (d : decode cc pc = .ok (.ishl, 1)) (k : nt_G p l e R s m args below meth c w A cells slots Q nL (pc + 1) lv (.int (x <<< (y &&& 31)) :: rest) g) : nt_G p l e R s m args below meth c w A cells slots Q nL pc lv (.int y :: .int x :: rest) g := fun H locs ls hP hD hS hl => lv_ishl X.1 X.2.1 d (k H locs ls hP hD hS hl)
theorem nt_ishr (X : nt_X cc nL own ret w A p s m args meth c) {x y : Int32} (d : decode cc pc = .ok (.ishr, 1)) (k : nt_G p l e R s m args below meth c w A cells slots Q nL (pc + 1) lv (.int (x >>> (y &&& 31)) :: rest) g) : nt_G p l e R s m args below meth c w A cells slots Q nL pc lv (.int y :: .int x :: rest) g := fun H locs ls hP hD hS hl => lv_ishr X.1 X.2.1 d (k H locs ls hP hD hS hl)
theorem nt_idiv (X : nt_X cc nL own ret w A p s m args meth c) {x y : Int32} (d : decode cc pc = .ok (.idiv, 1)) (hne : ¬ y = 0) (k : nt_G p l e R s m args below meth c w A cells slots Q nL (pc + 1) lv (.int (x / y) :: rest) g) : nt_G p l e R s m args below meth c w A cells slots Q nL pc lv (.int y :: .int x :: rest) g := fun H locs ls hP hD hS hl => lv_idiv X.1 X.2.1 d hne (k H locs ls hP hD hS hl)
theorem nt_irem (X : nt_X cc nL own ret w A p s m args meth c) {x y : Int32} (d : decode cc pc = .ok (.irem, 1)) (hne : ¬ y = 0) (k : nt_G p l e R s m args below meth c w A cells slots Q nL (pc + 1) lv (.int (x - x / y * y) :: rest) g) : nt_G p l e R s m args below meth c w A cells slots Q nL pc lv (.int y :: .int x :: rest) g := fun H locs ls hP hD hS hl => lv_irem X.1 X.2.1 d hne (k H locs ls hP hD hS hl)
theorem nt_ineg (X : nt_X cc nL own ret w A p s m args meth c) {x : Int32} (d : decode cc pc = .ok (.ineg, 1)) (k : nt_G p l e R s m args below meth c w A cells slots Q nL (pc + 1) lv (.int (-x) :: rest) g) : nt_G p l e R s m args below meth c w A cells slots Q nL pc lv (.int x :: rest) g := fun H locs ls hP hD hS hl => lv_ineg X.1 X.2.1 d (k H locs ls hP hD hS hl)
theorem nt_ladd (X : nt_X cc nL own ret w A p s m args meth c) {x y : Int64} (d : decode cc pc = .ok (.ladd, 1)) (k : nt_G p l e R s m args below meth c w A cells slots Q nL (pc + 1) lv (.long (x + y) :: rest) g) : nt_G p l e R s m args below meth c w A cells slots Q nL pc lv (.long y :: .long x :: rest) g := fun H locs ls hP hD hS hl => lv_ladd X.1 X.2.1 d (k H locs ls hP hD hS hl)
theorem nt_lsub (X : nt_X cc nL own ret w A p s m args meth c) {x y : Int64} (d : decode cc pc = .ok (.lsub, 1)) (k : nt_G p l e R s m args below meth c w A cells slots Q nL (pc + 1) lv (.long (x - y) :: rest) g) : nt_G p l e R s m args below meth c w A cells slots Q nL pc lv (.long y :: .long x :: rest) g := fun H locs ls hP hD hS hl => lv_lsub X.1 X.2.1 d (k H locs ls hP hD hS hl)
theorem nt_lmul (X : nt_X cc nL own ret w A p s m args meth c) {x y : Int64} (d : decode cc pc = .ok (.lmul, 1)) (k : nt_G p l e R s m args below meth c w A cells slots Q nL (pc + 1) lv (.long (x * y) :: rest) g) : nt_G p l e R s m args below meth c w A cells slots Q nL pc lv (.long y :: .long x :: rest) g := fun H locs ls hP hD hS hl => lv_lmul X.1 X.2.1 d (k H locs ls hP hD hS hl)
theorem nt_i2l (X : nt_X cc nL own ret w A p s m args meth c) {x : Int32} {v : Int64} (d : decode cc pc = .ok (.i2l, 1)) (hv : x.toInt64 = v) (k : nt_G p l e R s m args below meth c w A cells slots Q nL (pc + 1) lv (.long v :: rest) g) : nt_G p l e R s m args below meth c w A cells slots Q nL pc lv (.int x :: rest) g := fun H locs ls hP hD hS hl => lv_i2l X.1 X.2.1 d hv (k H locs ls hP hD hS hl)
theorem nt_l2i (X : nt_X cc nL own ret w A p s m args meth c) {x : Int64} {v : Int32} (d : decode cc pc = .ok (.l2i, 1)) (hv : x.toInt32 = v) (k : nt_G p l e R s m args below meth c w A cells slots Q nL (pc + 1) lv (.int v :: rest) g) : nt_G p l e R s m args below meth c w A cells slots Q nL pc lv (.long x :: rest) g := fun H locs ls hP hD hS hl => lv_l2i X.1 X.2.1 d hv (k H locs ls hP hD hS hl)
theorem nt_i2b (X : nt_X cc nL own ret w A p s m args meth c) {x v : Int32} (d : decode cc pc = .ok (.i2b, 1)) (hv : x.toInt8.toInt32 = v) (k : nt_G p l e R s m args below meth c w A cells slots Q nL (pc + 1) lv (.int v :: rest) g) : nt_G p l e R s m args below meth c w A cells slots Q nL pc lv (.int x :: rest) g := fun H locs ls hP hD hS hl => lv_i2b X.1 X.2.1 d hv (k H locs ls hP hD hS hl)
theorem nt_i2s (X : nt_X cc nL own ret w A p s m args meth c) {x v : Int32} (d : decode cc pc = .ok (.i2s, 1)) (hv : x.toInt16.toInt32 = v) (k : nt_G p l e R s m args below meth c w A cells slots Q nL (pc + 1) lv (.int v :: rest) g) : nt_G p l e R s m args below meth c w A cells slots Q nL pc lv (.int x :: rest) g := fun H locs ls hP hD hS hl => lv_i2s X.1 X.2.1 d hv (k H locs ls hP hD hS hl)
theorem nt_i2c (X : nt_X cc nL own ret w A p s m args meth c) {x v : Int32} (d : decode cc pc = .ok (.i2c, 1)) (hv : (x.toUInt32 % 65536).toInt32 = v) (k : nt_G p l e R s m args below meth c w A cells slots Q nL (pc + 1) lv (.int v :: rest) g) : nt_G p l e R s m args below meth c w A cells slots Q nL pc lv (.int x :: rest) g := fun H locs ls hP hD hS hl => lv_i2c X.1 X.2.1 d hv (k H locs ls hP hD hS hl)
theorem nt_iushr (X : nt_X cc nL own ret w A p s m args meth c) {x y v : Int32} (d : decode cc pc = .ok (.iushr, 1)) (hv : (x.toUInt32 >>> (y.toUInt32 &&& Int32.toUInt32 31)).toInt32 = v) (k : nt_G p l e R s m args below meth c w A cells slots Q nL (pc + 1) lv (.int v :: rest) g) : nt_G p l e R s m args below meth c w A cells slots Q nL pc lv (.int y :: .int x :: rest) g := fun H locs ls hP hD hS hl => lv_iushr X.1 X.2.1 d hv (k H locs ls hP hD hS hl)
theorem nt_lcmp (X : nt_X cc nL own ret w A p s m args meth c) {x y : Int64} (d : decode cc pc = .ok (.lcmp, 1)) (k : nt_G p l e R s m args below meth c w A cells slots Q nL (pc + 1) lv (.int (lg_cmp x y) :: rest) g) : nt_G p l e R s m args below meth c w A cells slots Q nL pc lv (.long y :: .long x :: rest) g := fun H locs ls hP hD hS hl => W.lcmp X.1 X.2.1 d (k H locs ls hP hD hS hl)
theorem nt_dup (X : nt_X cc nL own ret w A p s m args meth c) {va : Value} (d : decode cc pc = .ok (.dup, 1)) (hva : va.category = 1) (k : nt_G p l e R s m args below meth c w A cells slots Q nL (pc + 1) lv (va :: va :: rest) g) : nt_G p l e R s m args below meth c w A cells slots Q nL pc lv (va :: rest) g := fun H locs ls hP hD hS hl => lv_dup X.1 X.2.1 d hva (k H locs ls hP hD hS hl)
theorem nt_pop (X : nt_X cc nL own ret w A p s m args meth c) {va : Value} (d : decode cc pc = .ok (.pop, 1)) (hva : va.category = 1) (k : nt_G p l e R s m args below meth c w A cells slots Q nL (pc + 1) lv (rest) g) : nt_G p l e R s m args below meth c w A cells slots Q nL pc lv (va :: rest) g := fun H locs ls hP hD hS hl => lv_pop X.1 X.2.1 d hva (k H locs ls hP hD hS hl)
theorem nt_dup2 (X : nt_X cc nL own ret w A p s m args meth c) {va vb : Value} (d : decode cc pc = .ok (.dup2, 1)) (hva : va.category = 1) (hvb : vb.category = 1) (k : nt_G p l e R s m args below meth c w A cells slots Q nL (pc + 1) lv (va :: vb :: va :: vb :: rest) g) : nt_G p l e R s m args below meth c w A cells slots Q nL pc lv (va :: vb :: rest) g := fun H locs ls hP hD hS hl => lv_dup2_11 X.1 X.2.1 d hva hvb (k H locs ls hP hD hS hl)
theorem nt_if_eq (X : nt_X cc nL own ret w A p s m args meth c) {x : Int32} {off : Int} (tgt : Nat) (d : decode cc pc = .ok (.ifCond .eq off, 3)) (ht : (pc : Int) + off = (tgt : Int)) (kt : x = 0 → nt_G p l e R s m args below meth c w A cells slots Q nL tgt lv rest g) (kf : ¬ (x = 0) → nt_G p l e R s m args below meth c w A cells slots Q nL (pc + 3) lv rest g) : nt_G p l e R s m args below meth c w A cells slots Q nL pc lv (.int x :: rest) g := fun H locs ls hP hD hS hl => lv_if_eq X.1 X.2.1 d ht (fun q => kt q H locs ls hP hD hS hl) (fun q => kf q H locs ls hP hD hS hl)
theorem nt_icmp_eq (X : nt_X cc nL own ret w A p s m args meth c) {x y : Int32} {off : Int} (tgt : Nat) (d : decode cc pc = .ok (.if_icmp .eq off, 3)) (ht : (pc : Int) + off = (tgt : Int)) (kt : x = y → nt_G p l e R s m args below meth c w A cells slots Q nL tgt lv rest g) (kf : ¬ (x = y) → nt_G p l e R s m args below meth c w A cells slots Q nL (pc + 3) lv rest g) : nt_G p l e R s m args below meth c w A cells slots Q nL pc lv (.int y :: .int x :: rest) g := fun H locs ls hP hD hS hl => lv_icmp_eq X.1 X.2.1 d ht (fun q => kt q H locs ls hP hD hS hl) (fun q => kf q H locs ls hP hD hS hl)
theorem nt_if_ne (X : nt_X cc nL own ret w A p s m args meth c) {x : Int32} {off : Int} (tgt : Nat) (d : decode cc pc = .ok (.ifCond .ne off, 3)) (ht : (pc : Int) + off = (tgt : Int)) (kt : ¬ x = 0 → nt_G p l e R s m args below meth c w A cells slots Q nL tgt lv rest g) (kf : x = 0 → nt_G p l e R s m args below meth c w A cells slots Q nL (pc + 3) lv rest g) : nt_G p l e R s m args below meth c w A cells slots Q nL pc lv (.int x :: rest) g := fun H locs ls hP hD hS hl => lv_if_ne X.1 X.2.1 d ht (fun q => kt q H locs ls hP hD hS hl) (fun q => kf q H locs ls hP hD hS hl)
theorem nt_icmp_ne (X : nt_X cc nL own ret w A p s m args meth c) {x y : Int32} {off : Int} (tgt : Nat) (d : decode cc pc = .ok (.if_icmp .ne off, 3)) (ht : (pc : Int) + off = (tgt : Int)) (kt : ¬ x = y → nt_G p l e R s m args below meth c w A cells slots Q nL tgt lv rest g) (kf : x = y → nt_G p l e R s m args below meth c w A cells slots Q nL (pc + 3) lv rest g) : nt_G p l e R s m args below meth c w A cells slots Q nL pc lv (.int y :: .int x :: rest) g := fun H locs ls hP hD hS hl => lv_icmp_ne X.1 X.2.1 d ht (fun q => kt q H locs ls hP hD hS hl) (fun q => kf q H locs ls hP hD hS hl)
theorem nt_if_lt (X : nt_X cc nL own ret w A p s m args meth c) {x : Int32} {off : Int} (tgt : Nat) (d : decode cc pc = .ok (.ifCond .lt off, 3)) (ht : (pc : Int) + off = (tgt : Int)) (kt : x < 0 → nt_G p l e R s m args below meth c w A cells slots Q nL tgt lv rest g) (kf : ¬ (x < 0) → nt_G p l e R s m args below meth c w A cells slots Q nL (pc + 3) lv rest g) : nt_G p l e R s m args below meth c w A cells slots Q nL pc lv (.int x :: rest) g := fun H locs ls hP hD hS hl => lv_if_lt X.1 X.2.1 d ht (fun q => kt q H locs ls hP hD hS hl) (fun q => kf q H locs ls hP hD hS hl)
theorem nt_icmp_lt (X : nt_X cc nL own ret w A p s m args meth c) {x y : Int32} {off : Int} (tgt : Nat) (d : decode cc pc = .ok (.if_icmp .lt off, 3)) (ht : (pc : Int) + off = (tgt : Int)) (kt : x < y → nt_G p l e R s m args below meth c w A cells slots Q nL tgt lv rest g) (kf : ¬ (x < y) → nt_G p l e R s m args below meth c w A cells slots Q nL (pc + 3) lv rest g) : nt_G p l e R s m args below meth c w A cells slots Q nL pc lv (.int y :: .int x :: rest) g := fun H locs ls hP hD hS hl => lv_icmp_lt X.1 X.2.1 d ht (fun q => kt q H locs ls hP hD hS hl) (fun q => kf q H locs ls hP hD hS hl)
theorem nt_if_ge (X : nt_X cc nL own ret w A p s m args meth c) {x : Int32} {off : Int} (tgt : Nat) (d : decode cc pc = .ok (.ifCond .ge off, 3)) (ht : (pc : Int) + off = (tgt : Int)) (kt : 0 ≤ x → nt_G p l e R s m args below meth c w A cells slots Q nL tgt lv rest g) (kf : ¬ (0 ≤ x) → nt_G p l e R s m args below meth c w A cells slots Q nL (pc + 3) lv rest g) : nt_G p l e R s m args below meth c w A cells slots Q nL pc lv (.int x :: rest) g := fun H locs ls hP hD hS hl => lv_if_ge X.1 X.2.1 d ht (fun q => kt q H locs ls hP hD hS hl) (fun q => kf q H locs ls hP hD hS hl)
theorem nt_icmp_ge (X : nt_X cc nL own ret w A p s m args meth c) {x y : Int32} {off : Int} (tgt : Nat) (d : decode cc pc = .ok (.if_icmp .ge off, 3)) (ht : (pc : Int) + off = (tgt : Int)) (kt : y ≤ x → nt_G p l e R s m args below meth c w A cells slots Q nL tgt lv rest g) (kf : ¬ (y ≤ x) → nt_G p l e R s m args below meth c w A cells slots Q nL (pc + 3) lv rest g) : nt_G p l e R s m args below meth c w A cells slots Q nL pc lv (.int y :: .int x :: rest) g := fun H locs ls hP hD hS hl => lv_icmp_ge X.1 X.2.1 d ht (fun q => kt q H locs ls hP hD hS hl) (fun q => kf q H locs ls hP hD hS hl)
theorem nt_if_gt (X : nt_X cc nL own ret w A p s m args meth c) {x : Int32} {off : Int} (tgt : Nat) (d : decode cc pc = .ok (.ifCond .gt off, 3)) (ht : (pc : Int) + off = (tgt : Int)) (kt : 0 < x → nt_G p l e R s m args below meth c w A cells slots Q nL tgt lv rest g) (kf : ¬ (0 < x) → nt_G p l e R s m args below meth c w A cells slots Q nL (pc + 3) lv rest g) : nt_G p l e R s m args below meth c w A cells slots Q nL pc lv (.int x :: rest) g := fun H locs ls hP hD hS hl => lv_if_gt X.1 X.2.1 d ht (fun q => kt q H locs ls hP hD hS hl) (fun q => kf q H locs ls hP hD hS hl)
theorem nt_icmp_gt (X : nt_X cc nL own ret w A p s m args meth c) {x y : Int32} {off : Int} (tgt : Nat) (d : decode cc pc = .ok (.if_icmp .gt off, 3)) (ht : (pc : Int) + off = (tgt : Int)) (kt : y < x → nt_G p l e R s m args below meth c w A cells slots Q nL tgt lv rest g) (kf : ¬ (y < x) → nt_G p l e R s m args below meth c w A cells slots Q nL (pc + 3) lv rest g) : nt_G p l e R s m args below meth c w A cells slots Q nL pc lv (.int y :: .int x :: rest) g := fun H locs ls hP hD hS hl => lv_icmp_gt X.1 X.2.1 d ht (fun q => kt q H locs ls hP hD hS hl) (fun q => kf q H locs ls hP hD hS hl)
theorem nt_if_le (X : nt_X cc nL own ret w A p s m args meth c) {x : Int32} {off : Int} (tgt : Nat) (d : decode cc pc = .ok (.ifCond .le off, 3)) (ht : (pc : Int) + off = (tgt : Int)) (kt : x ≤ 0 → nt_G p l e R s m args below meth c w A cells slots Q nL tgt lv rest g) (kf : ¬ (x ≤ 0) → nt_G p l e R s m args below meth c w A cells slots Q nL (pc + 3) lv rest g) : nt_G p l e R s m args below meth c w A cells slots Q nL pc lv (.int x :: rest) g := fun H locs ls hP hD hS hl => lv_if_le X.1 X.2.1 d ht (fun q => kt q H locs ls hP hD hS hl) (fun q => kf q H locs ls hP hD hS hl)
theorem nt_icmp_le (X : nt_X cc nL own ret w A p s m args meth c) {x y : Int32} {off : Int} (tgt : Nat) (d : decode cc pc = .ok (.if_icmp .le off, 3)) (ht : (pc : Int) + off = (tgt : Int)) (kt : x ≤ y → nt_G p l e R s m args below meth c w A cells slots Q nL tgt lv rest g) (kf : ¬ (x ≤ y) → nt_G p l e R s m args below meth c w A cells slots Q nL (pc + 3) lv rest g) : nt_G p l e R s m args below meth c w A cells slots Q nL pc lv (.int y :: .int x :: rest) g := fun H locs ls hP hD hS hl => lv_icmp_le X.1 X.2.1 d ht (fun q => kt q H locs ls hP hD hS hl) (fun q => kf q H locs ls hP hD hS hl)
theorem nt_goto (X : nt_X cc nL own ret w A p s m args meth c) {off : Int} (tgt : Nat) (d : decode cc pc = .ok (.goto off, 3)) (ht : (pc : Int) + off = (tgt : Int)) (k : nt_G p l e R s m args below meth c w A cells slots Q nL tgt lv rest g) : nt_G p l e R s m args below meth c w A cells slots Q nL pc lv rest g := fun H locs ls hP hD hS hl => lv_goto X.1 X.2.1 d ht (k H locs ls hP hD hS hl)
theorem nt_tblOut (X : nt_X cc nL own ret w A p s m args meth c) {dflt lo hi : Int} {offs : Array Int} {len : Nat} {x : Int32} (tgt : Nat) (d : decode cc pc = .ok (.tableswitch dflt lo hi offs, len)) (h : x.toInt < lo ∨ hi < x.toInt) (ht : (pc : Int) + dflt = (tgt : Int)) (k : nt_G p l e R s m args below meth c w A cells slots Q nL tgt lv rest g) : nt_G p l e R s m args below meth c w A cells slots Q nL pc lv (.int x :: rest) g := fun H locs ls hP hD hS hl => lv_tableOut X.1 X.2.1 d h ht (k H locs ls hP hD hS hl)
theorem nt_tblIn (X : nt_X cc nL own ret w A p s m args meth c) {dflt lo hi : Int} {offs : Array Int} {len : Nat} {x : Int32} {off : Int} (tgt : Nat) (d : decode cc pc = .ok (.tableswitch dflt lo hi offs, len)) (h1 : ¬ x.toInt < lo) (h2 : ¬ hi < x.toInt) (ho : offs[(x.toInt - lo).toNat]? = some off) (ht : (pc : Int) + off = (tgt : Int)) (k : nt_G p l e R s m args below meth c w A cells slots Q nL tgt lv rest g) : nt_G p l e R s m args below meth c w A cells slots Q nL pc lv (.int x :: rest) g := fun H locs ls hP hD hS hl => lv_tableIn X.1 X.2.1 d h1 h2 ho ht (k H locs ls hP hD hS hl)
theorem nt_ldc (X : nt_X cc nL own ret w A p s m args meth c) {index : Nat} {v : Int32} (hw : Cond.constant own index v ∈ nt_tbl) (d : decode cc pc = .ok (.ldc index, 2)) (k : nt_G p l e R s m args below meth c w A cells slots Q nL (pc + 2) lv (.int v :: rest) g) : nt_G p l e R s m args below meth c w A cells slots Q nL pc lv rest g := fun H locs ls hP hD hS hl => lv_ldc X.1 X.2.1 X.2.2.2.1 (X.2.2.2.2.1 _ hw) d (k H locs ls hP hD hS hl)
theorem nt_ldcw (X : nt_X cc nL own ret w A p s m args meth c) {index : Nat} {v : Int32} (hw : Cond.constant own index v ∈ nt_tbl) (d : decode cc pc = .ok (.ldc_w index, 3)) (k : nt_G p l e R s m args below meth c w A cells slots Q nL (pc + 3) lv (.int v :: rest) g) : nt_G p l e R s m args below meth c w A cells slots Q nL pc lv rest g := fun H locs ls hP hD hS hl => lv_ldcw X.1 X.2.1 X.2.2.2.1 (X.2.2.2.2.1 _ hw) d (k H locs ls hP hD hS hl)
theorem nt_ldc2 (X : nt_X cc nL own ret w A p s m args meth c) {index : Nat} {v : Int64} (hw : Cond.constantLong own index v ∈ nt_tbl) (d : decode cc pc = .ok (.ldc2_w index, 3)) (k : nt_G p l e R s m args below meth c w A cells slots Q nL (pc + 3) lv (.long v :: rest) g) : nt_G p l e R s m args below meth c w A cells slots Q nL pc lv rest g := fun H locs ls hP hD hS hl => lv_ldc2 X.1 X.2.1 X.2.2.2.1 (X.2.2.2.2.1 _ hw) d (k H locs ls hP hD hS hl)
theorem nt_sub {lv2 : List (Nat × Value)} (ks : List Nat) (h : lv_pick lv ks = lv2) (k : nt_G p l e R s m args below meth c w A cells slots Q nL pc lv2 rest g) : nt_G p l e R s m args below meth c w A cells slots Q nL pc lv rest g := fun H locs ls hP hD hS hl => k H locs ls hP hD hS (lv_sub hl ks h)
theorem nt_topi {x y : Int32} (h : x = y) (k : nt_G p l e R s m args below meth c w A cells slots Q nL pc lv (.int y :: rest) g) : nt_G p l e R s m args below meth c w A cells slots Q nL pc lv (.int x :: rest) g := h ▸ k
theorem nt_topl {x y : Int64} (h : x = y) (k : nt_G p l e R s m args below meth c w A cells slots Q nL pc lv (.long y :: rest) g) : nt_G p l e R s m args below meth c w A cells slots Q nL pc lv (.long x :: rest) g := h ▸ k
theorem nt_geq {g2 : nt_T} (h : g = g2) (k : nt_G p l e R s m args below meth c w A cells slots Q nL pc lv rest g2) : nt_G p l e R s m args below meth c w A cells slots Q nL pc lv rest g := h ▸ k
theorem nt_eq {lv2 : List (Nat × Value)} {rest2 : List Value} {g2 : nt_T} (h1 : lv = lv2) (h2 : rest = rest2) (h3 : g = g2) (k : nt_G p l e R s m args below meth c w A cells slots Q nL pc lv2 rest2 g2) : nt_G p l e R s m args below meth c w A cells slots Q nL pc lv rest g := by
  subst h1; subst h2; subst h3; exact k
theorem nt_get (X : nt_X cc nL own ret w A p s m args meth c) {C : String} {T : u_T} {N ci index j : Nat} {tp : (Nat → Int32) → List Value} (k0 : Nat) (hin : ∀ q ∈ u_ws C T N, q ∈ nt_tbl) (hn : k0 < nt_n w) (hE : nt_E w k0 = fun f => .inr (ci, tp f)) (hc : vwCl[ci]? = some (C, T, N)) (hj : j < N) (hlk : Cond.fieldLink own index (T j).1 (T j).2.1 (T j).2.2.1 ∈ nt_tbl) {v : Value} (hv : (tp (g k0))[j]? = some v) (d : decode cc pc = .ok (.getfield index, 3)) (k : nt_G p l e R s m args below meth c w A cells slots Q nL (pc + 3) lv (v :: rest) g) : nt_G p l e R s m args below meth c w A cells slots Q nL pc lv (.ref (nt_a w k0) :: rest) g := by
  intro H locs ls hP hD hS hl
  have he : (nt_W w g)[k0]? = some (nt_a w k0, .inr (ci, tp (g k0))) := by rw [nt_W_at hn, hE]
  exact va_get X.1 X.2.1 X.2.2.2.2.1 hin X.2.2.2.1 X.2.2.2.2.2.2.2.1 hP k0 he hc j hj (X.2.2.2.2.1 _ hlk) (fun _ h => h) hv d (k H locs ls hP hD hS hl)
theorem nt_put (X : nt_X cc nL own ret w A p s m args meth c) {C : String} {T : u_T} {N ci index j : Nat} {tp : (Nat → Int32) → List Value} (k0 : Nat) (hin : ∀ q ∈ u_ws C T N, q ∈ nt_tbl) (hn : k0 < nt_n w) (hE : nt_E w k0 = fun f => .inr (ci, tp f)) (hc : vwCl[ci]? = some (C, T, N)) (hj : j < N) (hlk : Cond.fieldLink own index (T j).1 (T j).2.1 (T j).2.2.1 ∈ nt_tbl) (ty0 : Nat → FieldType) (hty : ∀ k, k < N → parseFieldDescriptor (T k).2.2.1 = some (ty0 k)) (hnm : ∀ a, a < N → ∀ b, b < N → a ≠ b → (T a).2.1 ≠ (T b).2.1) (hfin : (T j).2.2.2 = false) {ty : FieldType} {v : Int32} (hd : parseFieldDescriptor (T j).2.2.1 = some ty) (hnr : narrow ty (.int v) = .int v) (hfit : fits ty (.int v) = true) (hlen : ∀ f, j < (tp f).length) (hs : ∀ f : Nat → Int32, (tp f).set j (.int v) = tp (upd f j v)) (d : decode cc pc = .ok (.putfield index, 3)) (k : nt_G p l e R s m args below meth c w A cells slots Q nL (pc + 3) lv rest (nt_st g k0 j v)) : nt_G p l e R s m args below meth c w A cells slots Q nL pc lv (.int v :: .ref (nt_a w k0) :: rest) g := by
  intro H locs ls hP hD hS hl
  have he : (nt_W w g)[k0]? = some (nt_a w k0, .inr (ci, tp (g k0))) := by rw [nt_W_at hn, hE]
  refine va_put X.1 X.2.1 X.2.2.2.2.1 hin ty0 hty hnm X.2.2.2.1 X.2.2.2.2.2.2.2.1 hP hD hS k0 he hc j hj (X.2.2.2.2.1 _ hlk) (fun _ h => h) hfin hd hnr hfit (hlen _) d (fun H1 locs1 hP1 hD1 hS1 => ?_)
  have e2 : (nt_W w g).set k0 (nt_a w k0, .inr (ci, (tp (g k0)).set j (.int v))) = nt_W w (nt_st g k0 j v) := by
    rw [nt_st, ← nt_W_set hn, hE, hs]
  rw [e2] at hP1 hD1
  exact k H1 locs1 ls hP1 hD1 hS1 hl
theorem nt_getN (X : nt_X cc nL own ret w A p s m args meth c) {host : String} {C : String} {T : u_T} {N ci index j : Nat} {tp : (Nat → Int32) → List Value} (k0 : Nat) (hin : ∀ q ∈ u_ws C T N, q ∈ nt_tbl) (hn : k0 < nt_n w) (hE : nt_E w k0 = fun f => .inr (ci, tp f)) (hc : vwCl[ci]? = some (C, T, N)) (hj : j < N) (hlk : (own, index, (T j).1, (T j).2.1, (T j).2.2.1, host) ∈ nt_nestF) {v : Value} (hv : (tp (g k0))[j]? = some v) (d : decode cc pc = .ok (.getfield index, 3)) (k : nt_G p l e R s m args below meth c w A cells slots Q nL (pc + 3) lv (v :: rest) g) : nt_G p l e R s m args below meth c w A cells slots Q nL pc lv (.ref (nt_a w k0) :: rest) g := by
  intro H locs ls hP hD hS hl
  have he : (nt_W w g)[k0]? = some (nt_a w k0, .inr (ci, tp (g k0))) := by rw [nt_W_at hn, hE]
  exact va_getN X.1 X.2.1 X.2.2.2.2.1 hin X.2.2.2.1 X.2.2.2.2.2.2.2.1 hP k0 he hc j hj (va_Nw.use rfl (X.2.2.2.2.2.2.2.2.2.1.1 _ hlk)) (fun _ h => h) hv d (k H locs ls hP hD hS hl)
theorem nt_putN (X : nt_X cc nL own ret w A p s m args meth c) {host : String} {C : String} {T : u_T} {N ci index j : Nat} {tp : (Nat → Int32) → List Value} (k0 : Nat) (hin : ∀ q ∈ u_ws C T N, q ∈ nt_tbl) (hn : k0 < nt_n w) (hE : nt_E w k0 = fun f => .inr (ci, tp f)) (hc : vwCl[ci]? = some (C, T, N)) (hj : j < N) (hlk : (own, index, (T j).1, (T j).2.1, (T j).2.2.1, host) ∈ nt_nestF) (ty0 : Nat → FieldType) (hty : ∀ k, k < N → parseFieldDescriptor (T k).2.2.1 = some (ty0 k)) (hnm : ∀ a, a < N → ∀ b, b < N → a ≠ b → (T a).2.1 ≠ (T b).2.1) (hfin : (T j).2.2.2 = false) {ty : FieldType} {v : Int32} (hd : parseFieldDescriptor (T j).2.2.1 = some ty) (hnr : narrow ty (.int v) = .int v) (hfit : fits ty (.int v) = true) (hlen : ∀ f, j < (tp f).length) (hs : ∀ f : Nat → Int32, (tp f).set j (.int v) = tp (upd f j v)) (d : decode cc pc = .ok (.putfield index, 3)) (k : nt_G p l e R s m args below meth c w A cells slots Q nL (pc + 3) lv rest (nt_st g k0 j v)) : nt_G p l e R s m args below meth c w A cells slots Q nL pc lv (.int v :: .ref (nt_a w k0) :: rest) g := by
  intro H locs ls hP hD hS hl
  have he : (nt_W w g)[k0]? = some (nt_a w k0, .inr (ci, tp (g k0))) := by rw [nt_W_at hn, hE]
  refine va_putN X.1 X.2.1 X.2.2.2.2.1 hin ty0 hty hnm X.2.2.2.1 X.2.2.2.2.2.2.2.1 hP hD hS k0 he hc j hj (va_Nw.use rfl (X.2.2.2.2.2.2.2.2.2.1.1 _ hlk)) (fun _ h => h) hfin hd hnr hfit (hlen _) d (fun H1 locs1 hP1 hD1 hS1 => ?_)
  have e2 : (nt_W w g).set k0 (nt_a w k0, .inr (ci, (tp (g k0)).set j (.int v))) = nt_W w (nt_st g k0 j v) := by
    rw [nt_st, ← nt_W_set hn, hE, hs]
  rw [e2] at hP1 hD1
  exact k H1 locs1 ls hP1 hD1 hS1 hl
theorem nt_putL (X : nt_X cc nL own ret w A p s m args meth c) {C : String} {T : u_T} {N ci index j : Nat} {tp : (Nat → Int32) → List Value} (k0 : Nat) (hin : ∀ q ∈ u_ws C T N, q ∈ nt_tbl) (hn : k0 < nt_n w) (hE : nt_E w k0 = fun f => .inr (ci, tp f)) (hc : vwCl[ci]? = some (C, T, N)) (hj : j < N) (hlk : Cond.fieldLink own index (T j).1 (T j).2.1 (T j).2.2.1 ∈ nt_tbl) (ty0 : Nat → FieldType) (hty : ∀ k, k < N → parseFieldDescriptor (T k).2.2.1 = some (ty0 k)) (hnm : ∀ a, a < N → ∀ b, b < N → a ≠ b → (T a).2.1 ≠ (T b).2.1) (hfin : (T j).2.2.2 = false) {v : Int64} (hd : parseFieldDescriptor (T j).2.2.1 = some .long) (h1 h2 : Nat) (hlen : ∀ f, j < (tp f).length) (hs : ∀ f : Nat → Int32, (tp f).set j (.long v) = tp (upd (upd f h1 (nt_hi v)) h2 (nt_lo v))) (d : decode cc pc = .ok (.putfield index, 3)) (k : nt_G p l e R s m args below meth c w A cells slots Q nL (pc + 3) lv rest (nt_sc g k0 (upd (upd (g k0) h1 (nt_hi v)) h2 (nt_lo v)))) : nt_G p l e R s m args below meth c w A cells slots Q nL pc lv (.long v :: .ref (nt_a w k0) :: rest) g := by
  intro H locs ls hP hD hS hl
  have he : (nt_W w g)[k0]? = some (nt_a w k0, .inr (ci, tp (g k0))) := by rw [nt_W_at hn, hE]
  refine va_put X.1 X.2.1 X.2.2.2.2.1 hin ty0 hty hnm X.2.2.2.1 X.2.2.2.2.2.2.2.1 hP hD hS k0 he hc j hj (X.2.2.2.2.1 _ hlk) (fun _ h => h) hfin hd rfl rfl (hlen _) d (fun H1 locs1 hP1 hD1 hS1 => ?_)
  have e2 : (nt_W w g).set k0 (nt_a w k0, .inr (ci, (tp (g k0)).set j (.long v))) = nt_W w (nt_sc g k0 (upd (upd (g k0) h1 (nt_hi v)) h2 (nt_lo v))) := by
    rw [← nt_W_set hn, hE, hs]
  rw [e2] at hP1 hD1
  exact k H1 locs1 ls hP1 hD1 hS1 hl
theorem nt_iald (X : nt_X cc nL own ret w A p s m args meth c) (k0 t0 : Nat) {cA : ClassId} {len : Nat} (hn : k0 < nt_n w) (hE : nt_E w k0 = fun f => .inl (cA, len, .inl f)) (ht : w.2.1[t0]? = some (cA, .int)) {i : Int32} (hi : nt_in i len = true) (d : decode cc pc = .ok (.iaload, 1)) (k : nt_G p l e R s m args below meth c w A cells slots Q nL (pc + 1) lv (.int (g k0 i.toNatClampNeg) :: rest) g) : nt_G p l e R s m args below meth c w A cells slots Q nL pc lv (.int i :: .ref (nt_a w k0) :: rest) g := by
  intro H locs ls hP hD hS hl
  have he : (nt_W w g)[k0]? = some (nt_a w k0, .inl (cA, len, .inl (g k0))) := by rw [nt_W_at hn, hE]
  exact va_iald X.1 X.2.1 X.2.2.2.2.2.2.2.1 hP k0 t0 he ht (nt_in_vp hi) d (k H locs ls hP hD hS hl)
theorem nt_iast (X : nt_X cc nL own ret w A p s m args meth c) (k0 t0 : Nat) {cA : ClassId} {len : Nat} (hn : k0 < nt_n w) (hE : nt_E w k0 = fun f => .inl (cA, len, .inl f)) (ht : w.2.1[t0]? = some (cA, .int)) {i v : Int32} (hi : nt_in i len = true) (d : decode cc pc = .ok (.iastore, 1)) (k : nt_G p l e R s m args below meth c w A cells slots Q nL (pc + 1) lv rest (nt_st g k0 i.toNatClampNeg v)) : nt_G p l e R s m args below meth c w A cells slots Q nL pc lv (.int v :: .int i :: .ref (nt_a w k0) :: rest) g := by
  intro H locs ls hP hD hS hl
  have he : (nt_W w g)[k0]? = some (nt_a w k0, .inl (cA, len, .inl (g k0))) := by rw [nt_W_at hn, hE]
  refine va_iast X.1 X.2.1 X.2.2.2.2.2.2.2.1 hP hD hS k0 t0 he ht (nt_in_vp hi) d (fun H1 locs1 hP1 hD1 hS1 => ?_)
  have e2 : (nt_W w g).set k0 (nt_a w k0, .inl (cA, len, .inl (upd (g k0) i.toNatClampNeg v))) = nt_W w (nt_st g k0 i.toNatClampNeg v) := by
    rw [nt_st, ← nt_W_set hn, hE]
  rw [e2] at hP1 hD1
  exact k H1 locs1 ls hP1 hD1 hS1 hl
theorem nt_zald (X : nt_X cc nL own ret w A p s m args meth c) (k0 t0 : Nat) {cA : ClassId} {len : Nat} (hn : k0 < nt_n w) (hE : nt_E w k0 = fun f => .inl (cA, len, .inl f)) (ht : w.2.1[t0]? = some (cA, .boolean)) {i : Int32} (hi : nt_in i len = true) (d : decode cc pc = .ok (.baload, 1)) (k : nt_G p l e R s m args below meth c w A cells slots Q nL (pc + 1) lv (.int (g k0 i.toNatClampNeg) :: rest) g) : nt_G p l e R s m args below meth c w A cells slots Q nL pc lv (.int i :: .ref (nt_a w k0) :: rest) g := by
  intro H locs ls hP hD hS hl
  have he : (nt_W w g)[k0]? = some (nt_a w k0, .inl (cA, len, .inl (g k0))) := by rw [nt_W_at hn, hE]
  exact va_zald X.1 X.2.1 X.2.2.2.2.2.2.2.1 hP k0 t0 he ht (nt_in_vp hi) d (k H locs ls hP hD hS hl)
theorem nt_zast (X : nt_X cc nL own ret w A p s m args meth c) (k0 t0 : Nat) {cA : ClassId} {len : Nat} (hn : k0 < nt_n w) (hE : nt_E w k0 = fun f => .inl (cA, len, .inl f)) (ht : w.2.1[t0]? = some (cA, .boolean)) {i v : Int32} (hi : nt_in i len = true) (d : decode cc pc = .ok (.bastore, 1)) (k : nt_G p l e R s m args below meth c w A cells slots Q nL (pc + 1) lv rest (nt_st g k0 i.toNatClampNeg (vp_nar .boolean v))) : nt_G p l e R s m args below meth c w A cells slots Q nL pc lv (.int v :: .int i :: .ref (nt_a w k0) :: rest) g := by
  intro H locs ls hP hD hS hl
  have he : (nt_W w g)[k0]? = some (nt_a w k0, .inl (cA, len, .inl (g k0))) := by rw [nt_W_at hn, hE]
  refine va_zast X.1 X.2.1 X.2.2.2.2.2.2.2.1 hP hD hS k0 t0 he ht (nt_in_vp hi) d (fun H1 locs1 hP1 hD1 hS1 => ?_)
  have e2 : (nt_W w g).set k0 (nt_a w k0, .inl (cA, len, .inl (upd (g k0) i.toNatClampNeg (vp_nar .boolean v)))) = nt_W w (nt_st g k0 i.toNatClampNeg (vp_nar .boolean v)) := by
    rw [nt_st, ← nt_W_set hn, hE]
  rw [e2] at hP1 hD1
  exact k H1 locs1 ls hP1 hD1 hS1 hl
theorem nt_alen (X : nt_X cc nL own ret w A p s m args meth c) (k0 t0 : Nat) {cA : ClassId} {len : Nat} (hn : k0 < nt_n w) (hE : nt_E w k0 = fun f => .inl (cA, len, .inl f)) {ty : FieldType} (ht : w.2.1[t0]? = some (cA, ty)) {v : Int32} (hv : Int32.ofNat len = v) (d : decode cc pc = .ok (.arraylength, 1)) (k : nt_G p l e R s m args below meth c w A cells slots Q nL (pc + 1) lv (.int v :: rest) g) : nt_G p l e R s m args below meth c w A cells slots Q nL pc lv (.ref (nt_a w k0) :: rest) g := by
  intro H locs ls hP hD hS hl
  have he : (nt_W w g)[k0]? = some (nt_a w k0, .inl (cA, len, .inl (g k0))) := by rw [nt_W_at hn, hE]
  exact va_alen X.1 X.2.1 X.2.2.2.2.2.2.2.1 hP k0 t0 he ht hv d (k H locs ls hP hD hS hl)
def nt_cpok (sp dp n : Int32) (n0 n1 : Nat) : Bool := decide (¬ sp < 0) && (decide (¬ dp < 0) && (decide (¬ n < 0) && (decide (sp.toNatClampNeg + n.toNatClampNeg ≤ n0) && decide (dp.toNatClampNeg + n.toNatClampNeg ≤ n1))))
theorem nt_copy (X : nt_X cc nL own ret w A p s m args meth c) {index : Nat} (hw : Cond.methodLink own index arraycopyName ∈ nt_tbl) (hwn : Cond.native arraycopyName ∈ nt_tbl) (hws : Cond.static arraycopyName ∈ nt_tbl) (hwi : Cond.initialized "java/lang/System" ∈ nt_tbl) (k0 k1 t0 : Nat) {cA : ClassId} {len0 len1 : Nat} (hn0 : k0 < nt_n w) (hE0 : nt_E w k0 = fun f => .inl (cA, len0, .inl f)) (hn1 : k1 < nt_n w) (hE1 : nt_E w k1 = fun f => .inl (cA, len1, .inl f)) (ht : w.2.1[t0]? = some (cA, .int)) {sp dp n : Int32} (hc : nt_cpok sp dp n len0 len1 = true) (hR : 1 ≤ R.frames ∧ (rest.map fun v => v.category).sum + (nativeFrameWords "java/lang/System" "arraycopy" 5 + 11) ≤ R.locals) (d : decode cc pc = .ok (.invokestatic index, 3)) (k : nt_G p l e R s m args below meth c w A cells slots Q nL (pc + 3) lv rest (nt_sc g k1 (va_cpy (g k0) (g k1) sp.toNatClampNeg dp.toNatClampNeg n.toNatClampNeg))) : nt_G p l e R s m args below meth c w A cells slots Q nL pc lv (.int n :: .int dp :: .ref (nt_a w k1) :: .int sp :: .ref (nt_a w k0) :: rest) g := by
  intro H locs ls hP hD hS hl
  have he0 : (nt_W w g)[k0]? = some (nt_a w k0, .inl (cA, len0, .inl (g k0))) := by rw [nt_W_at hn0, hE0]
  have he1 : (nt_W w g)[k1]? = some (nt_a w k1, .inl (cA, len1, .inl (g k1))) := by rw [nt_W_at hn1, hE1]
  simp only [nt_cpok, Bool.and_eq_true, decide_eq_true_eq] at hc
  obtain ⟨h1, h2, h3, h4, h5⟩ := hc
  refine va_copyi X.1 X.2.1 (X.2.2.1.trans hl.1.symm) X.2.2.2.1 (X.2.2.2.2.1 _ hw) (X.2.2.2.2.1 _ hwn) (X.2.2.2.2.1 _ hws) (X.2.2.2.2.1 _ hwi) X.2.2.2.2.2.2.2.1 hP hD hS k0 k1 t0 t0 he0 he1 ht ht rfl h1 h2 h3 h4 h5 (fun _ _ => rfl) hR.1 hR.2 d (fun H1 locs1 hP1 hD1 hS1 => ?_)
  have e2 : (nt_W w g).set k1 (nt_a w k1, .inl (cA, len1, .inl (va_cpy (g k0) (g k1) sp.toNatClampNeg dp.toNatClampNeg n.toNatClampNeg))) = nt_W w (nt_sc g k1 (va_cpy (g k0) (g k1) sp.toNatClampNeg dp.toNatClampNeg n.toNatClampNeg)) := by
    rw [← nt_W_set hn1, hE1]
  rw [e2] at hP1 hD1
  exact k H1 locs1 ls hP1 hD1 hS1 hl
theorem nt_mmax (X : nt_X cc nL own ret w A p s m args meth c) {index : Nat} (hw : Cond.methodLink own index Lib.Math.max.name ∈ nt_tbl) (hws : Cond.static Lib.Math.max.name ∈ nt_tbl) (hwi : Cond.initialized "java/lang/Math" ∈ nt_tbl) (hwc : Cond.code Lib.Math.max.name Lib.Math.max.code 2 (some .int) ∈ nt_tbl) (hR : 1 ≤ R.frames ∧ (rest.map fun v => v.category).sum + 13 ≤ R.locals) (hcs : cells ≤ R.cells ∧ slots ≤ R.slots) {x y : Int32} (d : decode cc pc = .ok (.invokestatic index, 3)) (k : nt_G p l e R s m args below meth c w A cells slots Q nL (pc + 3) lv (.int (if x < y then y else x) :: rest) g) : nt_G p l e R s m args below meth c w A cells slots Q nL pc lv (.int y :: .int x :: rest) g := fun H locs ls hP hD hS hl => va_mmax X.1 X.2.1 (X.2.2.1.trans hl.1.symm) X.2.2.2.1 (X.2.2.2.2.1 _ hw) (X.2.2.2.2.1 _ hws) (X.2.2.2.2.1 _ hwi) (X.2.2.2.2.1 _ hwc) hR.1 hR.2 hcs.1 hcs.2 d (k H locs ls hP hD hS hl)
theorem nt_mmin (X : nt_X cc nL own ret w A p s m args meth c) {index : Nat} (hw : Cond.methodLink own index Lib.Math.min.name ∈ nt_tbl) (hws : Cond.static Lib.Math.min.name ∈ nt_tbl) (hwi : Cond.initialized "java/lang/Math" ∈ nt_tbl) (hwc : Cond.code Lib.Math.min.name Lib.Math.min.code 2 (some .int) ∈ nt_tbl) (hR : 1 ≤ R.frames ∧ (rest.map fun v => v.category).sum + 13 ≤ R.locals) (hcs : cells ≤ R.cells ∧ slots ≤ R.slots) {x y : Int32} (d : decode cc pc = .ok (.invokestatic index, 3)) (k : nt_G p l e R s m args below meth c w A cells slots Q nL (pc + 3) lv (.int (if y < x then y else x) :: rest) g) : nt_G p l e R s m args below meth c w A cells slots Q nL pc lv (.int y :: .int x :: rest) g := fun H locs ls hP hD hS hl => va_mmin X.1 X.2.1 (X.2.2.1.trans hl.1.symm) X.2.2.2.1 (X.2.2.2.2.1 _ hw) (X.2.2.2.2.1 _ hws) (X.2.2.2.2.1 _ hwi) (X.2.2.2.2.1 _ hwc) hR.1 hR.2 hcs.1 hcs.2 d (k H locs ls hP hD hS hl)
theorem nt_blind {av : List Value} {sz : Nat} : FrameBlind (va_Pc av (nt_P w g sz)) := by
  intro a U gf mk q
  obtain ⟨q0, q1, q2, q3, q4, q5⟩ := q
  exact ⟨q0, q1, q2, va_K.moved (u := U) (U := U.calling gf mk a) (Vm.Alike.refl U.vm) q3, q4, nt_Z_blind q5⟩
theorem nt_sub_A {H : Heap} {locs : List Loc} (X : nt_X cc nL own ret w A p s m args meth c) (hD : va_D A (nt_W w g)) (hS : va_S A s.heap H locs) : ∀ q, va_A (nt_W w g) H.size q → A q := by
  intro q h
  rcases h with ⟨k, e, h⟩ | h
  · exact hD.2 k _ h
  · exact X.2.2.2.2.2.2.2.2.1 q (Nat.le_trans hS.1 h)
theorem nt_pre {H : Heap} {locs : List Loc} (X : nt_X cc nL own ret w A p s m args meth c) (hP : va_P w.1 vwCl (nt_W w g) H) (hD : va_D A (nt_W w g)) (hS : va_S A s.heap H locs) (av : List Value) : ∀ U : State, U.heap = H → s.WarmedH U.vm → va_Pc av (nt_P w g H.size) av.toArray U := by
  intro U hU hW
  refine ⟨rfl, by rw [hU], by rw [hU]; exact hP, va_K.moved hW.alike X.2.2.2.2.2.2.2.1, hD.weaken (fun _ _ _ _ => trivial), ?_⟩
  rw [hU]
  exact nt_Z_go X.2.2.2.2.2.2.2.2.2 hW (nt_sub_A X hD hS) hS
theorem nt_cVi (X : nt_X cc nL own ret w A p s m args meth c) {y : MethodName} {bytes : ByteArray} {maxL dp index : Nat} {rt : Option FieldType} {As stk : List Value} {r : Int32} {g2 : nt_T} (k0 : Nat) {C : String} {T : u_T} {N ci : Nat} {tp : (Nat → Int32) → List Value} (hn : k0 < nt_n w) (hE : nt_E w k0 = fun f => .inr (ci, tp f)) (hc : vwCl[ci]? = some (C, T, N)) (hM : nt_Mi l w y bytes maxL rt dp (.ref (nt_a w k0) :: As) g r g2) (hw0 : Cond.code y bytes maxL rt ∈ nt_tbl) (hw1 : Cond.methodLink own index y ∈ nt_tbl) (hw2 : Cond.instanceMethod y ∈ nt_tbl) (hw3 : Cond.selects C y y ∈ nt_tbl) (hw4 : Cond.initialized C ∈ nt_tbl) (hC : y.cls = C) (hd : y.cls ≠ "java/lang/invoke/MethodHandle" ∧ y.cls ≠ "java/lang/invoke/VarHandle" ∧ (parseMethodDescriptor y.desc).map (fun d => d.parameters.length) = some As.length) (hR : dp + 1 ≤ R.frames ∧ 8 + (maxL + 11) + 60 * dp ≤ R.locals) (hcs : cells ≤ R.cells ∧ slots ≤ R.slots) (hrs : (rest.map fun v => v.category).sum ≤ 8) (hst : stk = As.reverse ++ .ref (nt_a w k0) :: rest) (d : decode cc pc = .ok (.invokevirtual index, 3)) (k : nt_G p l e R s m args below meth c w A cells slots Q nL (pc + 3) lv (.int r :: rest) g2) : nt_G p l e R s m args below meth c w A cells slots Q nL pc lv stk g := by
  intro H locs ls hP hD hS hl
  subst hst
  have he : (nt_W w g)[k0]? = some (nt_a w k0, .inr (ci, tp (g k0))) := by rw [nt_W_at hn, hE]
  have hFc := nt_sub_A X hD hS
  have hGd : GoodIn nt_tbl (wsV own index C y (nt_ws y bytes maxL rt)) := by
    intro q hq
    rcases List.mem_append.mp hq with h | h
    · have hm : q ∈ nt_tbl := by
        rcases List.mem_cons.mp h with rfl | h
        · exact hw1
        rcases List.mem_cons.mp h with rfl | h
        · exact hw2
        rcases List.mem_cons.mp h with rfl | h
        · exact hw3
        rcases List.mem_cons.mp h with rfl | h
        · exact hw4
        cases h
      exact ⟨hm, good_of_word (nt_good q hm)⟩
    · exact nt_ws_good hw0 q h
  refine va_calli (va_runV (As := As) (rest := rest) (C := C) ⟨X.1, X.2.1, X.2.2.1, X.2.2.2.1, X.2.2.2.2.1⟩ (hM H.size) (cwV As.length X.2.2.2.2.1 hGd rfl rfl rfl ⟨hC, hd⟩ hR) ⟨nt_blind, va_recv X.2.2.2.2.2.2.2.1 hP hc he, nt_pre X hP hD hS _⟩ rfl rfl hl.1 rfl (lv_room hrs) d hcs) hS (fun q _ h => hFc q h) hFc (fun r1 u t H1 locs1 ht hvm hw hB hz1 hk1 hS1 => ?_)
  obtain ⟨rfl, rfl⟩ := hw
  refine k H1 locs1 ls ?_ (nt_W_dom hD) hS1 hl
  rw [← ht]
  exact hB
theorem nt_cVNi (X : nt_X cc nL own ret w A p s m args meth c) {y : MethodName} {bytes : ByteArray} {maxL dp index : Nat} {rt : Option FieldType} {As stk : List Value} {r : Int32} {g2 : nt_T} {host : String} (k0 : Nat) {C : String} {T : u_T} {N ci : Nat} {tp : (Nat → Int32) → List Value} (hn : k0 < nt_n w) (hE : nt_E w k0 = fun f => .inr (ci, tp f)) (hc : vwCl[ci]? = some (C, T, N)) (hM : nt_Mi l w y bytes maxL rt dp (.ref (nt_a w k0) :: As) g r g2) (hw0 : Cond.code y bytes maxL rt ∈ nt_tbl) (hw1 : (own, index, y, host) ∈ nt_nestM) (hw2 : Cond.instanceMethod y ∈ nt_tbl) (hw3 : Cond.selects C y y ∈ nt_tbl) (hw4 : Cond.initialized y.cls ∈ nt_tbl) (hd : y.cls ≠ "java/lang/invoke/MethodHandle" ∧ y.cls ≠ "java/lang/invoke/VarHandle" ∧ (parseMethodDescriptor y.desc).map (fun d => d.parameters.length) = some As.length) (hR : dp + 1 ≤ R.frames ∧ 8 + (maxL + 11) + 60 * dp ≤ R.locals) (hcs : cells ≤ R.cells ∧ slots ≤ R.slots) (hrs : (rest.map fun v => v.category).sum ≤ 8) (hst : stk = As.reverse ++ .ref (nt_a w k0) :: rest) (d : decode cc pc = .ok (.invokevirtual index, 3)) (k : nt_G p l e R s m args below meth c w A cells slots Q nL (pc + 3) lv (.int r :: rest) g2) : nt_G p l e R s m args below meth c w A cells slots Q nL pc lv stk g := by
  intro H locs ls hP hD hS hl
  subst hst
  have he : (nt_W w g)[k0]? = some (nt_a w k0, .inr (ci, tp (g k0))) := by rw [nt_W_at hn, hE]
  have hFc := nt_sub_A X hD hS
  refine va_calli (va_runVN (As := As) (rest := rest) (C := C) ⟨X.1, X.2.1, X.2.2.1, X.2.2.2.1, X.2.2.2.2.1⟩ (hM H.size) ⟨va_cnB As.length X.2.2.2.2.1 (nt_ws_good hw0) rfl rfl rfl (X.2.2.2.2.2.2.2.2.2.1.2 _ hw1) (X.2.2.2.2.1 _ hw4) hd hR, X.2.2.2.2.1 _ hw2, X.2.2.2.2.1 _ hw3⟩ ⟨nt_blind, va_recv X.2.2.2.2.2.2.2.1 hP hc he, nt_pre X hP hD hS _⟩ rfl rfl hl.1 rfl (lv_room hrs) d hcs) hS (fun q _ h => hFc q h) hFc (fun r1 u t H1 locs1 ht hvm hw hB hz1 hk1 hS1 => ?_)
  obtain ⟨rfl, rfl⟩ := hw
  refine k H1 locs1 ls ?_ (nt_W_dom hD) hS1 hl
  rw [← ht]
  exact hB
theorem nt_cSi (X : nt_X cc nL own ret w A p s m args meth c) {y : MethodName} {bytes : ByteArray} {maxL dp index : Nat} {rt : Option FieldType} {As stk : List Value} {r : Int32} {g2 : nt_T} (hM : nt_Mi l w y bytes maxL rt dp As g r g2) (hw0 : Cond.code y bytes maxL rt ∈ nt_tbl) (hw1 : Cond.methodLink own index y ∈ nt_tbl) (hw2 : Cond.static y ∈ nt_tbl) (hw4 : Cond.initialized y.cls ∈ nt_tbl) (hd : y.cls ≠ "java/lang/invoke/MethodHandle" ∧ y.cls ≠ "java/lang/invoke/VarHandle" ∧ (parseMethodDescriptor y.desc).map (fun d => d.parameters.length) = some As.length) (hR : dp + 1 ≤ R.frames ∧ 8 + (maxL + 11) + 60 * dp ≤ R.locals) (hcs : cells ≤ R.cells ∧ slots ≤ R.slots) (hrs : (rest.map fun v => v.category).sum ≤ 8) (hst : stk = As.reverse ++ rest) (d : decode cc pc = .ok (.invokestatic index, 3)) (k : nt_G p l e R s m args below meth c w A cells slots Q nL (pc + 3) lv (.int r :: rest) g2) : nt_G p l e R s m args below meth c w A cells slots Q nL pc lv stk g := by
  intro H locs ls hP hD hS hl
  subst hst
  have hFc := nt_sub_A X hD hS
  refine va_calli (va_runS (As := As) (rest := rest) ⟨X.1, X.2.1, X.2.2.1, X.2.2.2.1, X.2.2.2.2.1⟩ (hM H.size) ⟨callB_of As.length X.2.2.2.2.1 (nt_ws_good hw0) rfl rfl rfl (X.2.2.2.2.1 _ hw4) (X.2.2.2.2.1 _ hw1) hd hR, X.2.2.2.2.1 _ hw2⟩ ⟨nt_blind, nt_pre X hP hD hS _⟩ rfl rfl hl.1 rfl (lv_room hrs) d hcs) hS (fun q _ h => hFc q h) hFc (fun r1 u t H1 locs1 ht hvm hw hB hz1 hk1 hS1 => ?_)
  obtain ⟨rfl, rfl⟩ := hw
  refine k H1 locs1 ls ?_ (nt_W_dom hD) hS1 hl
  rw [← ht]
  exact hB
theorem nt_cSNi (X : nt_X cc nL own ret w A p s m args meth c) {y : MethodName} {bytes : ByteArray} {maxL dp index : Nat} {rt : Option FieldType} {As stk : List Value} {r : Int32} {g2 : nt_T} {host : String} (hM : nt_Mi l w y bytes maxL rt dp As g r g2) (hw0 : Cond.code y bytes maxL rt ∈ nt_tbl) (hw1 : (own, index, y, host) ∈ nt_nestM) (hw2 : Cond.static y ∈ nt_tbl) (hw4 : Cond.initialized y.cls ∈ nt_tbl) (hd : y.cls ≠ "java/lang/invoke/MethodHandle" ∧ y.cls ≠ "java/lang/invoke/VarHandle" ∧ (parseMethodDescriptor y.desc).map (fun d => d.parameters.length) = some As.length) (hR : dp + 1 ≤ R.frames ∧ 8 + (maxL + 11) + 60 * dp ≤ R.locals) (hcs : cells ≤ R.cells ∧ slots ≤ R.slots) (hrs : (rest.map fun v => v.category).sum ≤ 8) (hst : stk = As.reverse ++ rest) (d : decode cc pc = .ok (.invokestatic index, 3)) (k : nt_G p l e R s m args below meth c w A cells slots Q nL (pc + 3) lv (.int r :: rest) g2) : nt_G p l e R s m args below meth c w A cells slots Q nL pc lv stk g := by
  intro H locs ls hP hD hS hl
  subst hst
  have hFc := nt_sub_A X hD hS
  refine va_calli (va_runSN (As := As) (rest := rest) ⟨X.1, X.2.1, X.2.2.1, X.2.2.2.1, X.2.2.2.2.1⟩ (hM H.size) ⟨va_cnB As.length X.2.2.2.2.1 (nt_ws_good hw0) rfl rfl rfl (X.2.2.2.2.2.2.2.2.2.1.2 _ hw1) (X.2.2.2.2.1 _ hw4) hd hR, X.2.2.2.2.1 _ hw2, trivial⟩ ⟨nt_blind, nt_pre X hP hD hS _⟩ rfl rfl hl.1 rfl (lv_room hrs) d hcs) hS (fun q _ h => hFc q h) hFc (fun r1 u t H1 locs1 ht hvm hw hB hz1 hk1 hS1 => ?_)
  obtain ⟨rfl, rfl⟩ := hw
  refine k H1 locs1 ls ?_ (nt_W_dom hD) hS1 hl
  rw [← ht]
  exact hB
theorem nt_cVl (X : nt_X cc nL own ret w A p s m args meth c) {y : MethodName} {bytes : ByteArray} {maxL dp index : Nat} {rt : Option FieldType} {As stk : List Value} {r : Int64} {g2 : nt_T} (k0 : Nat) {C : String} {T : u_T} {N ci : Nat} {tp : (Nat → Int32) → List Value} (hn : k0 < nt_n w) (hE : nt_E w k0 = fun f => .inr (ci, tp f)) (hc : vwCl[ci]? = some (C, T, N)) (hM : nt_Ml l w y bytes maxL rt dp (.ref (nt_a w k0) :: As) g r g2) (hw0 : Cond.code y bytes maxL rt ∈ nt_tbl) (hw1 : Cond.methodLink own index y ∈ nt_tbl) (hw2 : Cond.instanceMethod y ∈ nt_tbl) (hw3 : Cond.selects C y y ∈ nt_tbl) (hw4 : Cond.initialized C ∈ nt_tbl) (hC : y.cls = C) (hd : y.cls ≠ "java/lang/invoke/MethodHandle" ∧ y.cls ≠ "java/lang/invoke/VarHandle" ∧ (parseMethodDescriptor y.desc).map (fun d => d.parameters.length) = some As.length) (hR : dp + 1 ≤ R.frames ∧ 8 + (maxL + 11) + 60 * dp ≤ R.locals) (hcs : cells ≤ R.cells ∧ slots ≤ R.slots) (hrs : (rest.map fun v => v.category).sum ≤ 8) (hst : stk = As.reverse ++ .ref (nt_a w k0) :: rest) (d : decode cc pc = .ok (.invokevirtual index, 3)) (k : nt_G p l e R s m args below meth c w A cells slots Q nL (pc + 3) lv (.long r :: rest) g2) : nt_G p l e R s m args below meth c w A cells slots Q nL pc lv stk g := by
  intro H locs ls hP hD hS hl
  subst hst
  have he : (nt_W w g)[k0]? = some (nt_a w k0, .inr (ci, tp (g k0))) := by rw [nt_W_at hn, hE]
  have hFc := nt_sub_A X hD hS
  have hGd : GoodIn nt_tbl (wsV own index C y (nt_ws y bytes maxL rt)) := by
    intro q hq
    rcases List.mem_append.mp hq with h | h
    · have hm : q ∈ nt_tbl := by
        rcases List.mem_cons.mp h with rfl | h
        · exact hw1
        rcases List.mem_cons.mp h with rfl | h
        · exact hw2
        rcases List.mem_cons.mp h with rfl | h
        · exact hw3
        rcases List.mem_cons.mp h with rfl | h
        · exact hw4
        cases h
      exact ⟨hm, good_of_word (nt_good q hm)⟩
    · exact nt_ws_good hw0 q h
  refine va_calll (va_runV (As := As) (rest := rest) (C := C) ⟨X.1, X.2.1, X.2.2.1, X.2.2.2.1, X.2.2.2.2.1⟩ (hM H.size) (cwV As.length X.2.2.2.2.1 hGd rfl rfl rfl ⟨hC, hd⟩ hR) ⟨nt_blind, va_recv X.2.2.2.2.2.2.2.1 hP hc he, nt_pre X hP hD hS _⟩ rfl rfl hl.1 rfl (lv_room hrs) d hcs) hS (fun q _ h => hFc q h) hFc (fun r1 u t H1 locs1 ht hvm hw hB hz1 hk1 hS1 => ?_)
  obtain ⟨rfl, rfl⟩ := hw
  refine k H1 locs1 ls ?_ (nt_W_dom hD) hS1 hl
  rw [← ht]
  exact hB
theorem nt_cVNl (X : nt_X cc nL own ret w A p s m args meth c) {y : MethodName} {bytes : ByteArray} {maxL dp index : Nat} {rt : Option FieldType} {As stk : List Value} {r : Int64} {g2 : nt_T} {host : String} (k0 : Nat) {C : String} {T : u_T} {N ci : Nat} {tp : (Nat → Int32) → List Value} (hn : k0 < nt_n w) (hE : nt_E w k0 = fun f => .inr (ci, tp f)) (hc : vwCl[ci]? = some (C, T, N)) (hM : nt_Ml l w y bytes maxL rt dp (.ref (nt_a w k0) :: As) g r g2) (hw0 : Cond.code y bytes maxL rt ∈ nt_tbl) (hw1 : (own, index, y, host) ∈ nt_nestM) (hw2 : Cond.instanceMethod y ∈ nt_tbl) (hw3 : Cond.selects C y y ∈ nt_tbl) (hw4 : Cond.initialized y.cls ∈ nt_tbl) (hd : y.cls ≠ "java/lang/invoke/MethodHandle" ∧ y.cls ≠ "java/lang/invoke/VarHandle" ∧ (parseMethodDescriptor y.desc).map (fun d => d.parameters.length) = some As.length) (hR : dp + 1 ≤ R.frames ∧ 8 + (maxL + 11) + 60 * dp ≤ R.locals) (hcs : cells ≤ R.cells ∧ slots ≤ R.slots) (hrs : (rest.map fun v => v.category).sum ≤ 8) (hst : stk = As.reverse ++ .ref (nt_a w k0) :: rest) (d : decode cc pc = .ok (.invokevirtual index, 3)) (k : nt_G p l e R s m args below meth c w A cells slots Q nL (pc + 3) lv (.long r :: rest) g2) : nt_G p l e R s m args below meth c w A cells slots Q nL pc lv stk g := by
  intro H locs ls hP hD hS hl
  subst hst
  have he : (nt_W w g)[k0]? = some (nt_a w k0, .inr (ci, tp (g k0))) := by rw [nt_W_at hn, hE]
  have hFc := nt_sub_A X hD hS
  refine va_calll (va_runVN (As := As) (rest := rest) (C := C) ⟨X.1, X.2.1, X.2.2.1, X.2.2.2.1, X.2.2.2.2.1⟩ (hM H.size) ⟨va_cnB As.length X.2.2.2.2.1 (nt_ws_good hw0) rfl rfl rfl (X.2.2.2.2.2.2.2.2.2.1.2 _ hw1) (X.2.2.2.2.1 _ hw4) hd hR, X.2.2.2.2.1 _ hw2, X.2.2.2.2.1 _ hw3⟩ ⟨nt_blind, va_recv X.2.2.2.2.2.2.2.1 hP hc he, nt_pre X hP hD hS _⟩ rfl rfl hl.1 rfl (lv_room hrs) d hcs) hS (fun q _ h => hFc q h) hFc (fun r1 u t H1 locs1 ht hvm hw hB hz1 hk1 hS1 => ?_)
  obtain ⟨rfl, rfl⟩ := hw
  refine k H1 locs1 ls ?_ (nt_W_dom hD) hS1 hl
  rw [← ht]
  exact hB
theorem nt_cSl (X : nt_X cc nL own ret w A p s m args meth c) {y : MethodName} {bytes : ByteArray} {maxL dp index : Nat} {rt : Option FieldType} {As stk : List Value} {r : Int64} {g2 : nt_T} (hM : nt_Ml l w y bytes maxL rt dp As g r g2) (hw0 : Cond.code y bytes maxL rt ∈ nt_tbl) (hw1 : Cond.methodLink own index y ∈ nt_tbl) (hw2 : Cond.static y ∈ nt_tbl) (hw4 : Cond.initialized y.cls ∈ nt_tbl) (hd : y.cls ≠ "java/lang/invoke/MethodHandle" ∧ y.cls ≠ "java/lang/invoke/VarHandle" ∧ (parseMethodDescriptor y.desc).map (fun d => d.parameters.length) = some As.length) (hR : dp + 1 ≤ R.frames ∧ 8 + (maxL + 11) + 60 * dp ≤ R.locals) (hcs : cells ≤ R.cells ∧ slots ≤ R.slots) (hrs : (rest.map fun v => v.category).sum ≤ 8) (hst : stk = As.reverse ++ rest) (d : decode cc pc = .ok (.invokestatic index, 3)) (k : nt_G p l e R s m args below meth c w A cells slots Q nL (pc + 3) lv (.long r :: rest) g2) : nt_G p l e R s m args below meth c w A cells slots Q nL pc lv stk g := by
  intro H locs ls hP hD hS hl
  subst hst
  have hFc := nt_sub_A X hD hS
  refine va_calll (va_runS (As := As) (rest := rest) ⟨X.1, X.2.1, X.2.2.1, X.2.2.2.1, X.2.2.2.2.1⟩ (hM H.size) ⟨callB_of As.length X.2.2.2.2.1 (nt_ws_good hw0) rfl rfl rfl (X.2.2.2.2.1 _ hw4) (X.2.2.2.2.1 _ hw1) hd hR, X.2.2.2.2.1 _ hw2⟩ ⟨nt_blind, nt_pre X hP hD hS _⟩ rfl rfl hl.1 rfl (lv_room hrs) d hcs) hS (fun q _ h => hFc q h) hFc (fun r1 u t H1 locs1 ht hvm hw hB hz1 hk1 hS1 => ?_)
  obtain ⟨rfl, rfl⟩ := hw
  refine k H1 locs1 ls ?_ (nt_W_dom hD) hS1 hl
  rw [← ht]
  exact hB
theorem nt_cSNl (X : nt_X cc nL own ret w A p s m args meth c) {y : MethodName} {bytes : ByteArray} {maxL dp index : Nat} {rt : Option FieldType} {As stk : List Value} {r : Int64} {g2 : nt_T} {host : String} (hM : nt_Ml l w y bytes maxL rt dp As g r g2) (hw0 : Cond.code y bytes maxL rt ∈ nt_tbl) (hw1 : (own, index, y, host) ∈ nt_nestM) (hw2 : Cond.static y ∈ nt_tbl) (hw4 : Cond.initialized y.cls ∈ nt_tbl) (hd : y.cls ≠ "java/lang/invoke/MethodHandle" ∧ y.cls ≠ "java/lang/invoke/VarHandle" ∧ (parseMethodDescriptor y.desc).map (fun d => d.parameters.length) = some As.length) (hR : dp + 1 ≤ R.frames ∧ 8 + (maxL + 11) + 60 * dp ≤ R.locals) (hcs : cells ≤ R.cells ∧ slots ≤ R.slots) (hrs : (rest.map fun v => v.category).sum ≤ 8) (hst : stk = As.reverse ++ rest) (d : decode cc pc = .ok (.invokestatic index, 3)) (k : nt_G p l e R s m args below meth c w A cells slots Q nL (pc + 3) lv (.long r :: rest) g2) : nt_G p l e R s m args below meth c w A cells slots Q nL pc lv stk g := by
  intro H locs ls hP hD hS hl
  subst hst
  have hFc := nt_sub_A X hD hS
  refine va_calll (va_runSN (As := As) (rest := rest) ⟨X.1, X.2.1, X.2.2.1, X.2.2.2.1, X.2.2.2.2.1⟩ (hM H.size) ⟨va_cnB As.length X.2.2.2.2.1 (nt_ws_good hw0) rfl rfl rfl (X.2.2.2.2.2.2.2.2.2.1.2 _ hw1) (X.2.2.2.2.1 _ hw4) hd hR, X.2.2.2.2.1 _ hw2, trivial⟩ ⟨nt_blind, nt_pre X hP hD hS _⟩ rfl rfl hl.1 rfl (lv_room hrs) d hcs) hS (fun q _ h => hFc q h) hFc (fun r1 u t H1 locs1 ht hvm hw hB hz1 hk1 hS1 => ?_)
  obtain ⟨rfl, rfl⟩ := hw
  refine k H1 locs1 ls ?_ (nt_W_dom hD) hS1 hl
  rw [← ht]
  exact hB
theorem nt_cVv (X : nt_X cc nL own ret w A p s m args meth c) {y : MethodName} {bytes : ByteArray} {maxL dp index : Nat} {rt : Option FieldType} {As stk : List Value} {g2 : nt_T} (k0 : Nat) {C : String} {T : u_T} {N ci : Nat} {tp : (Nat → Int32) → List Value} (hn : k0 < nt_n w) (hE : nt_E w k0 = fun f => .inr (ci, tp f)) (hc : vwCl[ci]? = some (C, T, N)) (hM : nt_Mv l w y bytes maxL rt dp (.ref (nt_a w k0) :: As) g g2) (hw0 : Cond.code y bytes maxL rt ∈ nt_tbl) (hw1 : Cond.methodLink own index y ∈ nt_tbl) (hw2 : Cond.instanceMethod y ∈ nt_tbl) (hw3 : Cond.selects C y y ∈ nt_tbl) (hw4 : Cond.initialized C ∈ nt_tbl) (hC : y.cls = C) (hd : y.cls ≠ "java/lang/invoke/MethodHandle" ∧ y.cls ≠ "java/lang/invoke/VarHandle" ∧ (parseMethodDescriptor y.desc).map (fun d => d.parameters.length) = some As.length) (hR : dp + 1 ≤ R.frames ∧ 8 + (maxL + 11) + 60 * dp ≤ R.locals) (hcs : cells ≤ R.cells ∧ slots ≤ R.slots) (hrs : (rest.map fun v => v.category).sum ≤ 8) (hst : stk = As.reverse ++ .ref (nt_a w k0) :: rest) (d : decode cc pc = .ok (.invokevirtual index, 3)) (k : nt_G p l e R s m args below meth c w A cells slots Q nL (pc + 3) lv (rest) g2) : nt_G p l e R s m args below meth c w A cells slots Q nL pc lv stk g := by
  intro H locs ls hP hD hS hl
  subst hst
  have he : (nt_W w g)[k0]? = some (nt_a w k0, .inr (ci, tp (g k0))) := by rw [nt_W_at hn, hE]
  have hFc := nt_sub_A X hD hS
  have hGd : GoodIn nt_tbl (wsV own index C y (nt_ws y bytes maxL rt)) := by
    intro q hq
    rcases List.mem_append.mp hq with h | h
    · have hm : q ∈ nt_tbl := by
        rcases List.mem_cons.mp h with rfl | h
        · exact hw1
        rcases List.mem_cons.mp h with rfl | h
        · exact hw2
        rcases List.mem_cons.mp h with rfl | h
        · exact hw3
        rcases List.mem_cons.mp h with rfl | h
        · exact hw4
        cases h
      exact ⟨hm, good_of_word (nt_good q hm)⟩
    · exact nt_ws_good hw0 q h
  refine va_callv (va_runV (As := As) (rest := rest) (C := C) ⟨X.1, X.2.1, X.2.2.1, X.2.2.2.1, X.2.2.2.2.1⟩ (hM H.size) (cwV As.length X.2.2.2.2.1 hGd rfl rfl rfl ⟨hC, hd⟩ hR) ⟨nt_blind, va_recv X.2.2.2.2.2.2.2.1 hP hc he, nt_pre X hP hD hS _⟩ rfl rfl hl.1 rfl (lv_room hrs) d hcs) hS (fun q _ h => hFc q h) hFc (fun u t H1 locs1 ht hvm hw hB hz1 hk1 hS1 => ?_)
  subst hw
  refine k H1 locs1 ls ?_ (nt_W_dom hD) hS1 hl
  rw [← ht]
  exact hB
theorem nt_cVNv (X : nt_X cc nL own ret w A p s m args meth c) {y : MethodName} {bytes : ByteArray} {maxL dp index : Nat} {rt : Option FieldType} {As stk : List Value} {g2 : nt_T} {host : String} (k0 : Nat) {C : String} {T : u_T} {N ci : Nat} {tp : (Nat → Int32) → List Value} (hn : k0 < nt_n w) (hE : nt_E w k0 = fun f => .inr (ci, tp f)) (hc : vwCl[ci]? = some (C, T, N)) (hM : nt_Mv l w y bytes maxL rt dp (.ref (nt_a w k0) :: As) g g2) (hw0 : Cond.code y bytes maxL rt ∈ nt_tbl) (hw1 : (own, index, y, host) ∈ nt_nestM) (hw2 : Cond.instanceMethod y ∈ nt_tbl) (hw3 : Cond.selects C y y ∈ nt_tbl) (hw4 : Cond.initialized y.cls ∈ nt_tbl) (hd : y.cls ≠ "java/lang/invoke/MethodHandle" ∧ y.cls ≠ "java/lang/invoke/VarHandle" ∧ (parseMethodDescriptor y.desc).map (fun d => d.parameters.length) = some As.length) (hR : dp + 1 ≤ R.frames ∧ 8 + (maxL + 11) + 60 * dp ≤ R.locals) (hcs : cells ≤ R.cells ∧ slots ≤ R.slots) (hrs : (rest.map fun v => v.category).sum ≤ 8) (hst : stk = As.reverse ++ .ref (nt_a w k0) :: rest) (d : decode cc pc = .ok (.invokevirtual index, 3)) (k : nt_G p l e R s m args below meth c w A cells slots Q nL (pc + 3) lv (rest) g2) : nt_G p l e R s m args below meth c w A cells slots Q nL pc lv stk g := by
  intro H locs ls hP hD hS hl
  subst hst
  have he : (nt_W w g)[k0]? = some (nt_a w k0, .inr (ci, tp (g k0))) := by rw [nt_W_at hn, hE]
  have hFc := nt_sub_A X hD hS
  refine va_callv (va_runVN (As := As) (rest := rest) (C := C) ⟨X.1, X.2.1, X.2.2.1, X.2.2.2.1, X.2.2.2.2.1⟩ (hM H.size) ⟨va_cnB As.length X.2.2.2.2.1 (nt_ws_good hw0) rfl rfl rfl (X.2.2.2.2.2.2.2.2.2.1.2 _ hw1) (X.2.2.2.2.1 _ hw4) hd hR, X.2.2.2.2.1 _ hw2, X.2.2.2.2.1 _ hw3⟩ ⟨nt_blind, va_recv X.2.2.2.2.2.2.2.1 hP hc he, nt_pre X hP hD hS _⟩ rfl rfl hl.1 rfl (lv_room hrs) d hcs) hS (fun q _ h => hFc q h) hFc (fun u t H1 locs1 ht hvm hw hB hz1 hk1 hS1 => ?_)
  subst hw
  refine k H1 locs1 ls ?_ (nt_W_dom hD) hS1 hl
  rw [← ht]
  exact hB
theorem nt_cSv (X : nt_X cc nL own ret w A p s m args meth c) {y : MethodName} {bytes : ByteArray} {maxL dp index : Nat} {rt : Option FieldType} {As stk : List Value} {g2 : nt_T} (hM : nt_Mv l w y bytes maxL rt dp As g g2) (hw0 : Cond.code y bytes maxL rt ∈ nt_tbl) (hw1 : Cond.methodLink own index y ∈ nt_tbl) (hw2 : Cond.static y ∈ nt_tbl) (hw4 : Cond.initialized y.cls ∈ nt_tbl) (hd : y.cls ≠ "java/lang/invoke/MethodHandle" ∧ y.cls ≠ "java/lang/invoke/VarHandle" ∧ (parseMethodDescriptor y.desc).map (fun d => d.parameters.length) = some As.length) (hR : dp + 1 ≤ R.frames ∧ 8 + (maxL + 11) + 60 * dp ≤ R.locals) (hcs : cells ≤ R.cells ∧ slots ≤ R.slots) (hrs : (rest.map fun v => v.category).sum ≤ 8) (hst : stk = As.reverse ++ rest) (d : decode cc pc = .ok (.invokestatic index, 3)) (k : nt_G p l e R s m args below meth c w A cells slots Q nL (pc + 3) lv (rest) g2) : nt_G p l e R s m args below meth c w A cells slots Q nL pc lv stk g := by
  intro H locs ls hP hD hS hl
  subst hst
  have hFc := nt_sub_A X hD hS
  refine va_callv (va_runS (As := As) (rest := rest) ⟨X.1, X.2.1, X.2.2.1, X.2.2.2.1, X.2.2.2.2.1⟩ (hM H.size) ⟨callB_of As.length X.2.2.2.2.1 (nt_ws_good hw0) rfl rfl rfl (X.2.2.2.2.1 _ hw4) (X.2.2.2.2.1 _ hw1) hd hR, X.2.2.2.2.1 _ hw2⟩ ⟨nt_blind, nt_pre X hP hD hS _⟩ rfl rfl hl.1 rfl (lv_room hrs) d hcs) hS (fun q _ h => hFc q h) hFc (fun u t H1 locs1 ht hvm hw hB hz1 hk1 hS1 => ?_)
  subst hw
  refine k H1 locs1 ls ?_ (nt_W_dom hD) hS1 hl
  rw [← ht]
  exact hB
theorem nt_cSNv (X : nt_X cc nL own ret w A p s m args meth c) {y : MethodName} {bytes : ByteArray} {maxL dp index : Nat} {rt : Option FieldType} {As stk : List Value} {g2 : nt_T} {host : String} (hM : nt_Mv l w y bytes maxL rt dp As g g2) (hw0 : Cond.code y bytes maxL rt ∈ nt_tbl) (hw1 : (own, index, y, host) ∈ nt_nestM) (hw2 : Cond.static y ∈ nt_tbl) (hw4 : Cond.initialized y.cls ∈ nt_tbl) (hd : y.cls ≠ "java/lang/invoke/MethodHandle" ∧ y.cls ≠ "java/lang/invoke/VarHandle" ∧ (parseMethodDescriptor y.desc).map (fun d => d.parameters.length) = some As.length) (hR : dp + 1 ≤ R.frames ∧ 8 + (maxL + 11) + 60 * dp ≤ R.locals) (hcs : cells ≤ R.cells ∧ slots ≤ R.slots) (hrs : (rest.map fun v => v.category).sum ≤ 8) (hst : stk = As.reverse ++ rest) (d : decode cc pc = .ok (.invokestatic index, 3)) (k : nt_G p l e R s m args below meth c w A cells slots Q nL (pc + 3) lv (rest) g2) : nt_G p l e R s m args below meth c w A cells slots Q nL pc lv stk g := by
  intro H locs ls hP hD hS hl
  subst hst
  have hFc := nt_sub_A X hD hS
  refine va_callv (va_runSN (As := As) (rest := rest) ⟨X.1, X.2.1, X.2.2.1, X.2.2.2.1, X.2.2.2.2.1⟩ (hM H.size) ⟨va_cnB As.length X.2.2.2.2.1 (nt_ws_good hw0) rfl rfl rfl (X.2.2.2.2.2.2.2.2.2.1.2 _ hw1) (X.2.2.2.2.1 _ hw4) hd hR, X.2.2.2.2.1 _ hw2, trivial⟩ ⟨nt_blind, nt_pre X hP hD hS _⟩ rfl rfl hl.1 rfl (lv_room hrs) d hcs) hS (fun q _ h => hFc q h) hFc (fun u t H1 locs1 ht hvm hw hB hz1 hk1 hS1 => ?_)
  subst hw
  refine k H1 locs1 ls ?_ (nt_W_dom hD) hS1 hl
  rw [← ht]
  exact hB
theorem nt_iret (X : nt_X cc nL own (some .int) w A p s m args meth c) {r : Int32} {g2 : nt_T} (d : decode cc pc = .ok (.ireturn, 1)) {v : Int32} (h : (v, g) = (r, g2)) : nt_G p l e R s m args below meth c w A 0 0 (MQ below (va_Qi (fun (r' : Int32) (u : nt_T) => r' = r ∧ u = g2) (nt_B w) A) args s 0 0 A) nL pc lv [.int v] g := by
  intro H locs ls hP hD hS hl
  have hlocks := X.2.2.2.2.2.1
  exact W.iret X.1 X.2.1 X.2.2.2.2.2.2.1 (fun t ht hW => ⟨⟨v, g, rfl, ⟨(Prod.mk.inj h).1, (Prod.mk.inj h).2⟩, by rw [nt_B, ht]; exact hP⟩, hS.F ht⟩) hS.2.2 d
theorem nt_zret {ty : FieldType} (X : nt_X cc nL own (some ty) w A p s m args meth c) {r : Int32} {g2 : nt_T} {v : Int32} (hnr : narrow ty (.int v) = .int v) (d : decode cc pc = .ok (.ireturn, 1)) (h : (v, g) = (r, g2)) : nt_G p l e R s m args below meth c w A 0 0 (MQ below (va_Qi (fun (r' : Int32) (u : nt_T) => r' = r ∧ u = g2) (nt_B w) A) args s 0 0 A) nL pc lv [.int v] g := by
  intro H locs ls hP hD hS hl
  have hlocks := X.2.2.2.2.2.1
  exact W.zret X.1 X.2.1 X.2.2.2.2.2.2.1 hnr (fun t ht hW => ⟨⟨v, g, rfl, ⟨(Prod.mk.inj h).1, (Prod.mk.inj h).2⟩, by rw [nt_B, ht]; exact hP⟩, hS.F ht⟩) hS.2.2 d
theorem nt_Mi_of {y : MethodName} {dp : Nat} {av : List Value} {r : Int32} {g2 : nt_T} (hy : plainName y.cls = true) (hlen : (lg_sl av).length ≤ nL) (body : ∀ (p : Program) (e : Env) (s : State) (m : MethodId) (args : Array Value) (below : List Frame) (meth : Method) (c : Code) (A : Nat → Prop), nt_X cc nL y.cls ret w A p s m args meth c → nt_G p l e (nt_rm dp) s m args below meth c w A 0 0 (MQ below (va_Qi (fun (r' : Int32) (u : nt_T) => r' = r ∧ u = g2) (nt_B w) A) args s 0 0 A) nL 0 (lv_args 0 av) [] g) : nt_Mi l w y cc nL ret dp av g r g2 := by
  intro sz
  refine Met.ofW (cc := cc) (maxL := nL) (ret := ret) hy rfl ?_
  intro p e s m args below meth c s₁ B hml hv
  obtain ⟨rfl, hsz, hP, hK, hD0, hZ⟩ := hv
  have hts := atoms_spec (ws := nt_ws y cc nL ret) B.pre
  have hown : s.vm.findClass y.cls = some m.cls := findClass_of_methodNamed B.named
  subst hsz
  have hX : nt_X cc nL y.cls ret w (va_A (nt_W w g) s.heap.size) p s m av.toArray meth c := ⟨B.exec, B.bytes, hml, hown, fun q hq => hts q (List.mem_cons_of_mem _ hq), B.notSynchronized, B.returns, hK, fun q h => Or.inr h, hZ⟩
  have hl := lv_entry av (n := nL) hlen
  rw [lg_entry_eq]
  exact body p e s m av.toArray below meth c _ hX s.heap [] _ hP (hD0.self) va_S.rf hl
theorem nt_lret (X : nt_X cc nL own (some .long) w A p s m args meth c) {r : Int64} {g2 : nt_T} (d : decode cc pc = .ok (.lreturn, 1)) {v : Int64} (h : (v, g) = (r, g2)) : nt_G p l e R s m args below meth c w A 0 0 (MQ below (va_Ql (fun (r' : Int64) (u : nt_T) => r' = r ∧ u = g2) (nt_B w) A) args s 0 0 A) nL pc lv [.long v] g := by
  intro H locs ls hP hD hS hl
  have hlocks := X.2.2.2.2.2.1
  exact W.lret X.1 X.2.1 X.2.2.2.2.2.2.1 (fun t ht hW => ⟨⟨v, g, rfl, ⟨(Prod.mk.inj h).1, (Prod.mk.inj h).2⟩, by rw [nt_B, ht]; exact hP⟩, hS.F ht⟩) hS.2.2 d
theorem nt_Ml_of {y : MethodName} {dp : Nat} {av : List Value} {r : Int64} {g2 : nt_T} (hy : plainName y.cls = true) (hlen : (lg_sl av).length ≤ nL) (body : ∀ (p : Program) (e : Env) (s : State) (m : MethodId) (args : Array Value) (below : List Frame) (meth : Method) (c : Code) (A : Nat → Prop), nt_X cc nL y.cls ret w A p s m args meth c → nt_G p l e (nt_rm dp) s m args below meth c w A 0 0 (MQ below (va_Ql (fun (r' : Int64) (u : nt_T) => r' = r ∧ u = g2) (nt_B w) A) args s 0 0 A) nL 0 (lv_args 0 av) [] g) : nt_Ml l w y cc nL ret dp av g r g2 := by
  intro sz
  refine Met.ofW (cc := cc) (maxL := nL) (ret := ret) hy rfl ?_
  intro p e s m args below meth c s₁ B hml hv
  obtain ⟨rfl, hsz, hP, hK, hD0, hZ⟩ := hv
  have hts := atoms_spec (ws := nt_ws y cc nL ret) B.pre
  have hown : s.vm.findClass y.cls = some m.cls := findClass_of_methodNamed B.named
  subst hsz
  have hX : nt_X cc nL y.cls ret w (va_A (nt_W w g) s.heap.size) p s m av.toArray meth c := ⟨B.exec, B.bytes, hml, hown, fun q hq => hts q (List.mem_cons_of_mem _ hq), B.notSynchronized, B.returns, hK, fun q h => Or.inr h, hZ⟩
  have hl := lv_entry av (n := nL) hlen
  rw [lg_entry_eq]
  exact body p e s m av.toArray below meth c _ hX s.heap [] _ hP (hD0.self) va_S.rf hl
theorem nt_vret (X : nt_X cc nL own none w A p s m args meth c) {g2 : nt_T} (d : decode cc pc = .ok (.return_, 1)) (h : g = g2) : nt_G p l e R s m args below meth c w A 0 0 (MQ below (va_Qv (fun (u : nt_T) => u = g2) (nt_B w) A) args s 0 0 A) nL pc lv [] g := by
  intro H locs ls hP hD hS hl
  have hlocks := X.2.2.2.2.2.1
  exact W.vret X.1 X.2.1 X.2.2.2.2.2.2.1 (fun t ht hW => ⟨⟨g, rfl, h, by rw [nt_B, ht]; exact hP⟩, hS.F ht⟩) hS.2.2 d
theorem nt_Mv_of {y : MethodName} {dp : Nat} {av : List Value} {g2 : nt_T} (hy : plainName y.cls = true) (hlen : (lg_sl av).length ≤ nL) (body : ∀ (p : Program) (e : Env) (s : State) (m : MethodId) (args : Array Value) (below : List Frame) (meth : Method) (c : Code) (A : Nat → Prop), nt_X cc nL y.cls ret w A p s m args meth c → nt_G p l e (nt_rm dp) s m args below meth c w A 0 0 (MQ below (va_Qv (fun (u : nt_T) => u = g2) (nt_B w) A) args s 0 0 A) nL 0 (lv_args 0 av) [] g) : nt_Mv l w y cc nL ret dp av g g2 := by
  intro sz
  refine Met.ofW (cc := cc) (maxL := nL) (ret := ret) hy rfl ?_
  intro p e s m args below meth c s₁ B hml hv
  obtain ⟨rfl, hsz, hP, hK, hD0, hZ⟩ := hv
  have hts := atoms_spec (ws := nt_ws y cc nL ret) B.pre
  have hown : s.vm.findClass y.cls = some m.cls := findClass_of_methodNamed B.named
  subst hsz
  have hX : nt_X cc nL y.cls ret w (va_A (nt_W w g) s.heap.size) p s m av.toArray meth c := ⟨B.exec, B.bytes, hml, hown, fun q hq => hts q (List.mem_cons_of_mem _ hq), B.notSynchronized, B.returns, hK, fun q h => Or.inr h, hZ⟩
  have hl := lv_entry av (n := nL) hlen
  rw [lg_entry_eq]
  exact body p e s m av.toArray below meth c _ hX s.heap [] _ hP (hD0.self) va_S.rf hl
end NT
end
section
/-! ===== the worlds ===== -/
def nt_EX (lay : Nat → Nat) (nr : Nat) (ln : Nat → Nat) (cI cR : ClassId) (k : Nat) (f : Nat → Int32) : va_E := match k with
  | 0 => .inr (7, [.ref (lay 1), .ref (lay 6), .ref (lay 10), .ref (lay 14), .ref (lay 21), .ref (lay 28), .ref (lay 35), .ref (lay 43), .int (f 8)])
  | 1 => .inr (5, [.ref (lay 2), .ref (lay 3), .ref (lay 4), .ref (lay 5), .int (f 4)])
  | 2 => .inl (cI, 8, .inl f)
  | 3 => .inl (cI, 8, .inl f)
  | 4 => .inl (cI, 8, .inl f)
  | 5 => .inl (cI, 8, .inl f)
  | 6 => .inr (6, [.ref (lay 7), .ref (lay 8), .ref (lay 9), .int (f 3)])
  | 7 => .inl (cR, 6, .inr (.inr (.inr (.inr (fun i => if i < nr then some (lay (47 + 2 * i)) else none)))))
  | 8 => .inl (cI, 6, .inl f)
  | 9 => .inl (cI, 31, .inl f)
  | 10 => .inr (1, [.ref (lay 11), .int (f 1), .int (f 2), .int (f 3), .int (f 4), .int (f 5), .ref (lay 12), .int (f 7), .ref (lay 13)])
  | 11 => .inl (cI, 160, .inl f)
  | 12 => .inl (cI, 160, .inl f)
  | 13 => .inl (cI, 3, .inl f)
  | 14 => .inr (0, [.ref (lay 1), .ref (lay 6), .ref (lay 15), .ref (lay 16), .ref (lay 17), .ref (lay 18), .ref (lay 19), .int (f 7), .int (f 8), .int (f 9), .int (f 10), .ref (lay 20), .int (f 12), .int (f 13)])
  | 15 => .inl (cI, 9, .inl f)
  | 16 => .inl (cI, 9, .inl f)
  | 17 => .inl (cI, 9, .inl f)
  | 18 => .inl (cI, 9, .inl f)
  | 19 => .inl (cI, 72, .inl f)
  | 20 => .inl (cI, 9, .inl f)
  | 21 => .inr (0, [.ref (lay 1), .ref (lay 6), .ref (lay 22), .ref (lay 23), .ref (lay 24), .ref (lay 25), .ref (lay 26), .int (f 7), .int (f 8), .int (f 9), .int (f 10), .ref (lay 27), .int (f 12), .int (f 13)])
  | 22 => .inl (cI, 9, .inl f)
  | 23 => .inl (cI, 9, .inl f)
  | 24 => .inl (cI, 9, .inl f)
  | 25 => .inl (cI, 9, .inl f)
  | 26 => .inl (cI, 72, .inl f)
  | 27 => .inl (cI, 9, .inl f)
  | 28 => .inr (0, [.ref (lay 1), .ref (lay 6), .ref (lay 29), .ref (lay 30), .ref (lay 31), .ref (lay 32), .ref (lay 33), .int (f 7), .int (f 8), .int (f 9), .int (f 10), .ref (lay 34), .int (f 12), .int (f 13)])
  | 29 => .inl (cI, 9, .inl f)
  | 30 => .inl (cI, 9, .inl f)
  | 31 => .inl (cI, 9, .inl f)
  | 32 => .inl (cI, 9, .inl f)
  | 33 => .inl (cI, 72, .inl f)
  | 34 => .inl (cI, 9, .inl f)
  | 35 => .inr (3, [.ref (lay 14), .ref (lay 36), .ref (lay 37), .int (f 3), .ref (lay 38), .ref (lay 39), .ref (lay 40), .ref (lay 41), .ref (lay 42)])
  | 36 => .inl (cI, 8, .inl f)
  | 37 => .inl (cI, 8, .inl f)
  | 38 => .inl (cI, 8, .inl f)
  | 39 => .inl (cI, 72, .inl f)
  | 40 => .inl (cI, 4, .inl f)
  | 41 => .inl (cI, 4, .inl f)
  | 42 => .inl (cI, 4, .inl f)
  | 43 => .inr (4, [.ref (lay 44), .ref (lay 45), .ref (lay 46)])
  | 44 => .inl (cI, 4, .inl f)
  | 45 => .inl (cI, 4, .inl f)
  | 46 => .inl (cI, 160, .inl f)
  | k + 47 => if k % 2 = 0 then .inr (2, [.ref (lay (k + 48)), .int (f 1), .int (f 2)]) else .inl (cI, ln (k / 2), .inl f)
/-- w is a world of the class: with nr texts, their code's lengths ln -/
def nt_isR (w : nt_w) (nr : Nat) (ln : Nat → Nat) : Prop := ∃ (cI cR : ClassId), w.2.1 = [(cI, .int), (cR, .object RX2)] ∧ nt_n w = 47 + 2 * nr ∧ nt_E w = nt_EX (nt_a w) nr ln cI cR
def nt_isX (w : nt_w) : Prop := ∃ (nr : Nat) (ln : Nat → Nat), nt_isR w nr ln
def nt_cI (w : nt_w) : ClassId := match w.2.1 with
  | q :: _ => q.1
  | [] => (0 : Nat)
theorem nt_lX {w : nt_w} (hw : nt_isX w) {k : Nat} (h : k < 47) : k < nt_n w := by
  obtain ⟨nr, ln, cI, cR, h1, h2, h3⟩ := hw
  omega
theorem nt_tX {w : nt_w} (hw : nt_isX w) : w.2.1[0]? = some (nt_cI w, .int) := by
  obtain ⟨nr, ln, cI, cR, h1, h2, h3⟩ := hw
  simp [nt_cI, h1]
def nt_isP (b : Nat) : Prop := b = 14 ∨ b = 21 ∨ b = 28
theorem nt_p14 : nt_isP 14 := Or.inl rfl
theorem nt_p21 : nt_isP 21 := Or.inr (Or.inl rfl)
theorem nt_p28 : nt_isP 28 := Or.inr (Or.inr rfl)
theorem nt_lP {w : nt_w} (hw : nt_isX w) {b : Nat} (hb : nt_isP b) (j : Nat) (hj : j < 7) : b + j < nt_n w := nt_lX hw (by rcases hb with rfl | rfl | rfl <;> omega)
theorem nt_e0 {w : nt_w} (hw : nt_isX w) : nt_E w 0 = fun f => .inr (7, [.ref (nt_a w 1), .ref (nt_a w 6), .ref (nt_a w 10), .ref (nt_a w 14), .ref (nt_a w 21), .ref (nt_a w 28), .ref (nt_a w 35), .ref (nt_a w 43), .int (f 8)]) := by
  obtain ⟨nr, ln, cI, cR, h1, h2, h3⟩ := hw
  have hc : nt_cI w = cI := by simp [nt_cI, h1]
  rw [h3]
  try rw [hc]
  rfl
theorem nt_e1 {w : nt_w} (hw : nt_isX w) : nt_E w 1 = fun f => .inr (5, [.ref (nt_a w 2), .ref (nt_a w 3), .ref (nt_a w 4), .ref (nt_a w 5), .int (f 4)]) := by
  obtain ⟨nr, ln, cI, cR, h1, h2, h3⟩ := hw
  have hc : nt_cI w = cI := by simp [nt_cI, h1]
  rw [h3]
  try rw [hc]
  rfl
theorem nt_e2 {w : nt_w} (hw : nt_isX w) : nt_E w 2 = fun f => .inl ((nt_cI w), 8, .inl f) := by
  obtain ⟨nr, ln, cI, cR, h1, h2, h3⟩ := hw
  have hc : nt_cI w = cI := by simp [nt_cI, h1]
  rw [h3]
  try rw [hc]
  rfl
theorem nt_e3 {w : nt_w} (hw : nt_isX w) : nt_E w 3 = fun f => .inl ((nt_cI w), 8, .inl f) := by
  obtain ⟨nr, ln, cI, cR, h1, h2, h3⟩ := hw
  have hc : nt_cI w = cI := by simp [nt_cI, h1]
  rw [h3]
  try rw [hc]
  rfl
theorem nt_e4 {w : nt_w} (hw : nt_isX w) : nt_E w 4 = fun f => .inl ((nt_cI w), 8, .inl f) := by
  obtain ⟨nr, ln, cI, cR, h1, h2, h3⟩ := hw
  have hc : nt_cI w = cI := by simp [nt_cI, h1]
  rw [h3]
  try rw [hc]
  rfl
theorem nt_e5 {w : nt_w} (hw : nt_isX w) : nt_E w 5 = fun f => .inl ((nt_cI w), 8, .inl f) := by
  obtain ⟨nr, ln, cI, cR, h1, h2, h3⟩ := hw
  have hc : nt_cI w = cI := by simp [nt_cI, h1]
  rw [h3]
  try rw [hc]
  rfl
theorem nt_e6 {w : nt_w} (hw : nt_isX w) : nt_E w 6 = fun f => .inr (6, [.ref (nt_a w 7), .ref (nt_a w 8), .ref (nt_a w 9), .int (f 3)]) := by
  obtain ⟨nr, ln, cI, cR, h1, h2, h3⟩ := hw
  have hc : nt_cI w = cI := by simp [nt_cI, h1]
  rw [h3]
  try rw [hc]
  rfl
theorem nt_e8 {w : nt_w} (hw : nt_isX w) : nt_E w 8 = fun f => .inl ((nt_cI w), 6, .inl f) := by
  obtain ⟨nr, ln, cI, cR, h1, h2, h3⟩ := hw
  have hc : nt_cI w = cI := by simp [nt_cI, h1]
  rw [h3]
  try rw [hc]
  rfl
theorem nt_e9 {w : nt_w} (hw : nt_isX w) : nt_E w 9 = fun f => .inl ((nt_cI w), 31, .inl f) := by
  obtain ⟨nr, ln, cI, cR, h1, h2, h3⟩ := hw
  have hc : nt_cI w = cI := by simp [nt_cI, h1]
  rw [h3]
  try rw [hc]
  rfl
theorem nt_e10 {w : nt_w} (hw : nt_isX w) : nt_E w 10 = fun f => .inr (1, [.ref (nt_a w 11), .int (f 1), .int (f 2), .int (f 3), .int (f 4), .int (f 5), .ref (nt_a w 12), .int (f 7), .ref (nt_a w 13)]) := by
  obtain ⟨nr, ln, cI, cR, h1, h2, h3⟩ := hw
  have hc : nt_cI w = cI := by simp [nt_cI, h1]
  rw [h3]
  try rw [hc]
  rfl
theorem nt_e11 {w : nt_w} (hw : nt_isX w) : nt_E w 11 = fun f => .inl ((nt_cI w), 160, .inl f) := by
  obtain ⟨nr, ln, cI, cR, h1, h2, h3⟩ := hw
  have hc : nt_cI w = cI := by simp [nt_cI, h1]
  rw [h3]
  try rw [hc]
  rfl
theorem nt_e12 {w : nt_w} (hw : nt_isX w) : nt_E w 12 = fun f => .inl ((nt_cI w), 160, .inl f) := by
  obtain ⟨nr, ln, cI, cR, h1, h2, h3⟩ := hw
  have hc : nt_cI w = cI := by simp [nt_cI, h1]
  rw [h3]
  try rw [hc]
  rfl
theorem nt_e13 {w : nt_w} (hw : nt_isX w) : nt_E w 13 = fun f => .inl ((nt_cI w), 3, .inl f) := by
  obtain ⟨nr, ln, cI, cR, h1, h2, h3⟩ := hw
  have hc : nt_cI w = cI := by simp [nt_cI, h1]
  rw [h3]
  try rw [hc]
  rfl
theorem nt_e35 {w : nt_w} (hw : nt_isX w) : nt_E w 35 = fun f => .inr (3, [.ref (nt_a w 14), .ref (nt_a w 36), .ref (nt_a w 37), .int (f 3), .ref (nt_a w 38), .ref (nt_a w 39), .ref (nt_a w 40), .ref (nt_a w 41), .ref (nt_a w 42)]) := by
  obtain ⟨nr, ln, cI, cR, h1, h2, h3⟩ := hw
  have hc : nt_cI w = cI := by simp [nt_cI, h1]
  rw [h3]
  try rw [hc]
  rfl
theorem nt_e36 {w : nt_w} (hw : nt_isX w) : nt_E w 36 = fun f => .inl ((nt_cI w), 8, .inl f) := by
  obtain ⟨nr, ln, cI, cR, h1, h2, h3⟩ := hw
  have hc : nt_cI w = cI := by simp [nt_cI, h1]
  rw [h3]
  try rw [hc]
  rfl
theorem nt_e37 {w : nt_w} (hw : nt_isX w) : nt_E w 37 = fun f => .inl ((nt_cI w), 8, .inl f) := by
  obtain ⟨nr, ln, cI, cR, h1, h2, h3⟩ := hw
  have hc : nt_cI w = cI := by simp [nt_cI, h1]
  rw [h3]
  try rw [hc]
  rfl
theorem nt_e38 {w : nt_w} (hw : nt_isX w) : nt_E w 38 = fun f => .inl ((nt_cI w), 8, .inl f) := by
  obtain ⟨nr, ln, cI, cR, h1, h2, h3⟩ := hw
  have hc : nt_cI w = cI := by simp [nt_cI, h1]
  rw [h3]
  try rw [hc]
  rfl
theorem nt_e39 {w : nt_w} (hw : nt_isX w) : nt_E w 39 = fun f => .inl ((nt_cI w), 72, .inl f) := by
  obtain ⟨nr, ln, cI, cR, h1, h2, h3⟩ := hw
  have hc : nt_cI w = cI := by simp [nt_cI, h1]
  rw [h3]
  try rw [hc]
  rfl
theorem nt_e40 {w : nt_w} (hw : nt_isX w) : nt_E w 40 = fun f => .inl ((nt_cI w), 4, .inl f) := by
  obtain ⟨nr, ln, cI, cR, h1, h2, h3⟩ := hw
  have hc : nt_cI w = cI := by simp [nt_cI, h1]
  rw [h3]
  try rw [hc]
  rfl
theorem nt_e41 {w : nt_w} (hw : nt_isX w) : nt_E w 41 = fun f => .inl ((nt_cI w), 4, .inl f) := by
  obtain ⟨nr, ln, cI, cR, h1, h2, h3⟩ := hw
  have hc : nt_cI w = cI := by simp [nt_cI, h1]
  rw [h3]
  try rw [hc]
  rfl
theorem nt_e42 {w : nt_w} (hw : nt_isX w) : nt_E w 42 = fun f => .inl ((nt_cI w), 4, .inl f) := by
  obtain ⟨nr, ln, cI, cR, h1, h2, h3⟩ := hw
  have hc : nt_cI w = cI := by simp [nt_cI, h1]
  rw [h3]
  try rw [hc]
  rfl
theorem nt_e43 {w : nt_w} (hw : nt_isX w) : nt_E w 43 = fun f => .inr (4, [.ref (nt_a w 44), .ref (nt_a w 45), .ref (nt_a w 46)]) := by
  obtain ⟨nr, ln, cI, cR, h1, h2, h3⟩ := hw
  have hc : nt_cI w = cI := by simp [nt_cI, h1]
  rw [h3]
  try rw [hc]
  rfl
theorem nt_e44 {w : nt_w} (hw : nt_isX w) : nt_E w 44 = fun f => .inl ((nt_cI w), 4, .inl f) := by
  obtain ⟨nr, ln, cI, cR, h1, h2, h3⟩ := hw
  have hc : nt_cI w = cI := by simp [nt_cI, h1]
  rw [h3]
  try rw [hc]
  rfl
theorem nt_e45 {w : nt_w} (hw : nt_isX w) : nt_E w 45 = fun f => .inl ((nt_cI w), 4, .inl f) := by
  obtain ⟨nr, ln, cI, cR, h1, h2, h3⟩ := hw
  have hc : nt_cI w = cI := by simp [nt_cI, h1]
  rw [h3]
  try rw [hc]
  rfl
theorem nt_e46 {w : nt_w} (hw : nt_isX w) : nt_E w 46 = fun f => .inl ((nt_cI w), 160, .inl f) := by
  obtain ⟨nr, ln, cI, cR, h1, h2, h3⟩ := hw
  have hc : nt_cI w = cI := by simp [nt_cI, h1]
  rw [h3]
  try rw [hc]
  rfl
theorem nt_eP {w : nt_w} (hw : nt_isX w) {b : Nat} (hb : nt_isP b) : nt_E w b = fun f => .inr (0, [.ref (nt_a w 1), .ref (nt_a w 6), .ref (nt_a w (b + 1)), .ref (nt_a w (b + 2)), .ref (nt_a w (b + 3)), .ref (nt_a w (b + 4)), .ref (nt_a w (b + 5)), .int (f 7), .int (f 8), .int (f 9), .int (f 10), .ref (nt_a w (b + 6)), .int (f 12), .int (f 13)]) := by
  obtain ⟨nr, ln, cI, cR, h1, h2, h3⟩ := hw
  rw [h3]
  rcases hb with rfl | rfl | rfl <;> rfl
theorem nt_eP1 {w : nt_w} (hw : nt_isX w) {b : Nat} (hb : nt_isP b) : nt_E w (b + 1) = fun f => .inl (nt_cI w, 9, .inl f) := by
  obtain ⟨nr, ln, cI, cR, h1, h2, h3⟩ := hw
  have hc : nt_cI w = cI := by simp [nt_cI, h1]
  rw [h3, hc]
  rcases hb with rfl | rfl | rfl <;> rfl
theorem nt_eP2 {w : nt_w} (hw : nt_isX w) {b : Nat} (hb : nt_isP b) : nt_E w (b + 2) = fun f => .inl (nt_cI w, 9, .inl f) := by
  obtain ⟨nr, ln, cI, cR, h1, h2, h3⟩ := hw
  have hc : nt_cI w = cI := by simp [nt_cI, h1]
  rw [h3, hc]
  rcases hb with rfl | rfl | rfl <;> rfl
theorem nt_eP3 {w : nt_w} (hw : nt_isX w) {b : Nat} (hb : nt_isP b) : nt_E w (b + 3) = fun f => .inl (nt_cI w, 9, .inl f) := by
  obtain ⟨nr, ln, cI, cR, h1, h2, h3⟩ := hw
  have hc : nt_cI w = cI := by simp [nt_cI, h1]
  rw [h3, hc]
  rcases hb with rfl | rfl | rfl <;> rfl
theorem nt_eP4 {w : nt_w} (hw : nt_isX w) {b : Nat} (hb : nt_isP b) : nt_E w (b + 4) = fun f => .inl (nt_cI w, 9, .inl f) := by
  obtain ⟨nr, ln, cI, cR, h1, h2, h3⟩ := hw
  have hc : nt_cI w = cI := by simp [nt_cI, h1]
  rw [h3, hc]
  rcases hb with rfl | rfl | rfl <;> rfl
theorem nt_eP5 {w : nt_w} (hw : nt_isX w) {b : Nat} (hb : nt_isP b) : nt_E w (b + 5) = fun f => .inl (nt_cI w, 72, .inl f) := by
  obtain ⟨nr, ln, cI, cR, h1, h2, h3⟩ := hw
  have hc : nt_cI w = cI := by simp [nt_cI, h1]
  rw [h3, hc]
  rcases hb with rfl | rfl | rfl <;> rfl
theorem nt_eP6 {w : nt_w} (hw : nt_isX w) {b : Nat} (hb : nt_isP b) : nt_E w (b + 6) = fun f => .inl (nt_cI w, 9, .inl f) := by
  obtain ⟨nr, ln, cI, cR, h1, h2, h3⟩ := hw
  have hc : nt_cI w = cI := by simp [nt_cI, h1]
  rw [h3, hc]
  rcases hb with rfl | rfl | rfl <;> rfl
def nt_tpM (lay : Nat → Nat) (f : Nat → Int32) : List Value := [.int (f 0), .ref (lay 1), .ref (lay 2), .int (f 3), .int (f 4), .ref (lay 3), .int (f 6), .ref (lay 4), .ref (lay 5), .ref (lay 6), .ref (lay 7), .int (f 11), .ref (lay 8), .ref (lay 9), .ref (lay 10), .ref (lay 11), .ref (lay 12), .int (f 17), .int (f 18), .int (f 19), .int (f 20), .int (f 21), .int (f 22), .int (f 23), .int (f 24), .int (f 25), .int (f 26), .int (f 27), .int (f 28), .int (f 29), .long (nt_mk (f 130) (f 230)), .int (f 31), .int (f 32), .int (f 33), .int (f 34), .ref (lay 13), .ref (lay 14), .ref (lay 15), .int (f 38), .ref (lay 16), .ref (lay 17), .ref (lay 18), .ref (lay 19), .ref (lay 20), .int (f 44), .int (f 45), .int (f 46), .ref (lay 21), .ref (lay 22), .ref (lay 23), .ref (lay 24)]
def nt_EM (lay : Nat → Nat) (cI cZ : ClassId) (k : Nat) (f : Nat → Int32) : va_E := match k with
  | 0 => .inr (8, nt_tpM lay f)
  | 1 => .inl (cI, 960, .inl f)
  | 2 => .inl (cI, 6, .inl f)
  | 3 => .inl (cI, 160, .inl f)
  | 4 => .inl (cI, 8, .inl f)
  | 5 => .inl (cI, 8, .inl f)
  | 6 => .inl (cI, 8, .inl f)
  | 7 => .inl (cI, 8, .inl f)
  | 8 => .inl (cI, 9, .inl f)
  | 9 => .inl (cI, 9, .inl f)
  | 10 => .inl (cI, 9, .inl f)
  | 11 => .inl (cI, 9, .inl f)
  | 12 => .inl (cI, 72, .inl f)
  | 13 => .inl (cI, 9, .inl f)
  | 14 => .inl (cI, 9, .inl f)
  | 15 => .inl (cI, 72, .inl f)
  | 16 => .inl (cI, 8, .inl f)
  | 17 => .inl (cI, 576, .inl f)
  | 18 => .inl (cI, 9, .inl f)
  | 19 => .inl (cI, 9, .inl f)
  | 20 => .inl (cI, 72, .inl f)
  | 21 => .inl (cZ, 4, .inl f)
  | 22 => .inl (cI, 4, .inl f)
  | 23 => .inl (cI, 4, .inl f)
  | 24 => .inl (cI, 160, .inl f)
  | _ => .inl (cI, 0, .inl f)
def nt_isM (w : nt_w) : Prop := ∃ (cI cZ : ClassId), w.2.1 = [(cI, .int), (cZ, .boolean)] ∧ nt_n w = 25 ∧ nt_E w = nt_EM (nt_a w) cI cZ
def nt_cZ (w : nt_w) : ClassId := match w.2.1 with
  | _ :: q :: _ => q.1
  | _ => (0 : Nat)
theorem nt_lM {w : nt_w} (hw : nt_isM w) {k : Nat} (h : k < 25) : k < nt_n w := by
  obtain ⟨cI, cZ, h1, h2, h3⟩ := hw
  omega
theorem nt_tM {w : nt_w} (hw : nt_isM w) : w.2.1[0]? = some (nt_cI w, .int) := by
  obtain ⟨cI, cZ, h1, h2, h3⟩ := hw
  simp [nt_cI, h1]
theorem nt_tZ {w : nt_w} (hw : nt_isM w) : w.2.1[1]? = some (nt_cZ w, .boolean) := by
  obtain ⟨cI, cZ, h1, h2, h3⟩ := hw
  simp [nt_cZ, h1]
theorem nt_m0 {w : nt_w} (hw : nt_isM w) : nt_E w 0 = fun f => .inr (8, nt_tpM (nt_a w) f) := by
  obtain ⟨cI, cZ, h1, h2, h3⟩ := hw
  rw [h3]
  rfl
theorem nt_m1 {w : nt_w} (hw : nt_isM w) : nt_E w 1 = fun f => .inl (nt_cI w, 960, .inl f) := by
  obtain ⟨cI, cZ, h1, h2, h3⟩ := hw
  have hc : nt_cI w = cI := by simp [nt_cI, h1]
  rw [h3, hc]
  rfl
theorem nt_m2 {w : nt_w} (hw : nt_isM w) : nt_E w 2 = fun f => .inl (nt_cI w, 6, .inl f) := by
  obtain ⟨cI, cZ, h1, h2, h3⟩ := hw
  have hc : nt_cI w = cI := by simp [nt_cI, h1]
  rw [h3, hc]
  rfl
theorem nt_m3 {w : nt_w} (hw : nt_isM w) : nt_E w 3 = fun f => .inl (nt_cI w, 160, .inl f) := by
  obtain ⟨cI, cZ, h1, h2, h3⟩ := hw
  have hc : nt_cI w = cI := by simp [nt_cI, h1]
  rw [h3, hc]
  rfl
theorem nt_m4 {w : nt_w} (hw : nt_isM w) : nt_E w 4 = fun f => .inl (nt_cI w, 8, .inl f) := by
  obtain ⟨cI, cZ, h1, h2, h3⟩ := hw
  have hc : nt_cI w = cI := by simp [nt_cI, h1]
  rw [h3, hc]
  rfl
theorem nt_m5 {w : nt_w} (hw : nt_isM w) : nt_E w 5 = fun f => .inl (nt_cI w, 8, .inl f) := by
  obtain ⟨cI, cZ, h1, h2, h3⟩ := hw
  have hc : nt_cI w = cI := by simp [nt_cI, h1]
  rw [h3, hc]
  rfl
theorem nt_m6 {w : nt_w} (hw : nt_isM w) : nt_E w 6 = fun f => .inl (nt_cI w, 8, .inl f) := by
  obtain ⟨cI, cZ, h1, h2, h3⟩ := hw
  have hc : nt_cI w = cI := by simp [nt_cI, h1]
  rw [h3, hc]
  rfl
theorem nt_m7 {w : nt_w} (hw : nt_isM w) : nt_E w 7 = fun f => .inl (nt_cI w, 8, .inl f) := by
  obtain ⟨cI, cZ, h1, h2, h3⟩ := hw
  have hc : nt_cI w = cI := by simp [nt_cI, h1]
  rw [h3, hc]
  rfl
theorem nt_m8 {w : nt_w} (hw : nt_isM w) : nt_E w 8 = fun f => .inl (nt_cI w, 9, .inl f) := by
  obtain ⟨cI, cZ, h1, h2, h3⟩ := hw
  have hc : nt_cI w = cI := by simp [nt_cI, h1]
  rw [h3, hc]
  rfl
theorem nt_m9 {w : nt_w} (hw : nt_isM w) : nt_E w 9 = fun f => .inl (nt_cI w, 9, .inl f) := by
  obtain ⟨cI, cZ, h1, h2, h3⟩ := hw
  have hc : nt_cI w = cI := by simp [nt_cI, h1]
  rw [h3, hc]
  rfl
theorem nt_m10 {w : nt_w} (hw : nt_isM w) : nt_E w 10 = fun f => .inl (nt_cI w, 9, .inl f) := by
  obtain ⟨cI, cZ, h1, h2, h3⟩ := hw
  have hc : nt_cI w = cI := by simp [nt_cI, h1]
  rw [h3, hc]
  rfl
theorem nt_m11 {w : nt_w} (hw : nt_isM w) : nt_E w 11 = fun f => .inl (nt_cI w, 9, .inl f) := by
  obtain ⟨cI, cZ, h1, h2, h3⟩ := hw
  have hc : nt_cI w = cI := by simp [nt_cI, h1]
  rw [h3, hc]
  rfl
theorem nt_m12 {w : nt_w} (hw : nt_isM w) : nt_E w 12 = fun f => .inl (nt_cI w, 72, .inl f) := by
  obtain ⟨cI, cZ, h1, h2, h3⟩ := hw
  have hc : nt_cI w = cI := by simp [nt_cI, h1]
  rw [h3, hc]
  rfl
theorem nt_m13 {w : nt_w} (hw : nt_isM w) : nt_E w 13 = fun f => .inl (nt_cI w, 9, .inl f) := by
  obtain ⟨cI, cZ, h1, h2, h3⟩ := hw
  have hc : nt_cI w = cI := by simp [nt_cI, h1]
  rw [h3, hc]
  rfl
theorem nt_m14 {w : nt_w} (hw : nt_isM w) : nt_E w 14 = fun f => .inl (nt_cI w, 9, .inl f) := by
  obtain ⟨cI, cZ, h1, h2, h3⟩ := hw
  have hc : nt_cI w = cI := by simp [nt_cI, h1]
  rw [h3, hc]
  rfl
theorem nt_m15 {w : nt_w} (hw : nt_isM w) : nt_E w 15 = fun f => .inl (nt_cI w, 72, .inl f) := by
  obtain ⟨cI, cZ, h1, h2, h3⟩ := hw
  have hc : nt_cI w = cI := by simp [nt_cI, h1]
  rw [h3, hc]
  rfl
theorem nt_m16 {w : nt_w} (hw : nt_isM w) : nt_E w 16 = fun f => .inl (nt_cI w, 8, .inl f) := by
  obtain ⟨cI, cZ, h1, h2, h3⟩ := hw
  have hc : nt_cI w = cI := by simp [nt_cI, h1]
  rw [h3, hc]
  rfl
theorem nt_m17 {w : nt_w} (hw : nt_isM w) : nt_E w 17 = fun f => .inl (nt_cI w, 576, .inl f) := by
  obtain ⟨cI, cZ, h1, h2, h3⟩ := hw
  have hc : nt_cI w = cI := by simp [nt_cI, h1]
  rw [h3, hc]
  rfl
theorem nt_m18 {w : nt_w} (hw : nt_isM w) : nt_E w 18 = fun f => .inl (nt_cI w, 9, .inl f) := by
  obtain ⟨cI, cZ, h1, h2, h3⟩ := hw
  have hc : nt_cI w = cI := by simp [nt_cI, h1]
  rw [h3, hc]
  rfl
theorem nt_m19 {w : nt_w} (hw : nt_isM w) : nt_E w 19 = fun f => .inl (nt_cI w, 9, .inl f) := by
  obtain ⟨cI, cZ, h1, h2, h3⟩ := hw
  have hc : nt_cI w = cI := by simp [nt_cI, h1]
  rw [h3, hc]
  rfl
theorem nt_m20 {w : nt_w} (hw : nt_isM w) : nt_E w 20 = fun f => .inl (nt_cI w, 72, .inl f) := by
  obtain ⟨cI, cZ, h1, h2, h3⟩ := hw
  have hc : nt_cI w = cI := by simp [nt_cI, h1]
  rw [h3, hc]
  rfl
theorem nt_m21 {w : nt_w} (hw : nt_isM w) : nt_E w 21 = fun f => .inl (nt_cZ w, 4, .inl f) := by
  obtain ⟨cI, cZ, h1, h2, h3⟩ := hw
  have hc : nt_cZ w = cZ := by simp [nt_cZ, h1]
  rw [h3, hc]
  rfl
theorem nt_m22 {w : nt_w} (hw : nt_isM w) : nt_E w 22 = fun f => .inl (nt_cI w, 4, .inl f) := by
  obtain ⟨cI, cZ, h1, h2, h3⟩ := hw
  have hc : nt_cI w = cI := by simp [nt_cI, h1]
  rw [h3, hc]
  rfl
theorem nt_m23 {w : nt_w} (hw : nt_isM w) : nt_E w 23 = fun f => .inl (nt_cI w, 4, .inl f) := by
  obtain ⟨cI, cZ, h1, h2, h3⟩ := hw
  have hc : nt_cI w = cI := by simp [nt_cI, h1]
  rw [h3, hc]
  rfl
theorem nt_m24 {w : nt_w} (hw : nt_isM w) : nt_E w 24 = fun f => .inl (nt_cI w, 160, .inl f) := by
  obtain ⟨cI, cZ, h1, h2, h3⟩ := hw
  have hc : nt_cI w = cI := by simp [nt_cI, h1]
  rw [h3, hc]
  rfl
/-- a long's two halves come to slots 100 + j, 200 + j -/
def nt_stl (g : nt_T) (k j : Nat) (v : Int64) : nt_T := nt_sc g k (upd (upd (g k) (100 + j) (nt_hi v)) (200 + j) (nt_lo v))
theorem nt_mlong {lay : Nat → Nat} (f : Nat → Int32) (v : Int64) : (nt_tpM lay f).set 30 (.long v) = nt_tpM lay (upd (upd f 130 (nt_hi v)) 230 (nt_lo v)) := by
  have e : nt_mk (upd (upd f 130 (nt_hi v)) 230 (nt_lo v) 130) (upd (upd f 130 (nt_hi v)) 230 (nt_lo v) 230) = v := by
    have e1 : upd (upd f 130 (nt_hi v)) 230 (nt_lo v) 130 = nt_hi v := rfl
    have e2 : upd (upd f 130 (nt_hi v)) 230 (nt_lo v) 230 = nt_lo v := rfl
    rw [e1, e2, nt_mk_hl]
  unfold nt_tpM
  rw [e]
  rfl
/-- statics -/
def nt_und (i : Int32) : Int32 := [-1, 0, 0, 1, 2, 1].getD i.toNatClampNeg 0
section NU
variable {p : Program} {l : Launch} {e : Env} {R : Room} {s : State} {m : MethodId} {args : Array Value} {below : List Frame} {meth : Method} {c : Code} {cells slots : Nat} {Q : State → Prop}
variable {cc : ByteArray} {nL : Nat} {own : String} {ret : Option FieldType} {w : nt_w} {A : Nat → Prop} {g : nt_T} {pc : Nat} {lv : List (Nat × Value)} {rest : List Value}
theorem nt_gund (X : nt_X cc nL own ret w A p s m args meth c) {index : Nat} (hw : Cond.fieldLink own index RX5 "UNDER" "[I" ∈ nt_tbl) (d : decode cc pc = .ok (.getstatic index, 3)) (k : nt_G p l e R s m args below meth c w A cells slots Q nL (pc + 3) lv (.ref (w.2.2.1 0) :: rest) g) : nt_G p l e R s m args below meth c w A cells slots Q nL pc lv rest g := fun H locs ls hP hD hS hl => va_gets X.1 X.2.1 X.2.2.2.2.2.2.2.2.2.2.1 hS X.2.2.2.1 (X.2.2.2.2.1 _ hw) (fun _ h => h) d (k H locs ls hP hD hS hl)
theorem nt_uld (X : nt_X cc nL own ret w A p s m args meth c) {i : Int32} (hi : nt_in i 6 = true) (d : decode cc pc = .ok (.iaload, 1)) (k : nt_G p l e R s m args below meth c w A cells slots Q nL (pc + 1) lv (.int (nt_und i) :: rest) g) : nt_G p l e R s m args below meth c w A cells slots Q nL pc lv (.int i :: .ref (w.2.2.1 0) :: rest) g := fun H locs ls hP hD hS hl => va_ti X.1 X.2.1 X.2.2.2.2.2.2.2.2.2.2.2.1 hS (nt_in_vp hi) rfl d (k H locs ls hP hD hS hl)
end NU
def nt_ushr (x y : Int32) : Int32 := (x.toUInt32 >>> (y.toUInt32 &&& Int32.toUInt32 31)).toInt32
def nt_i8 (x : Int32) : Int32 := x.toInt8.toInt32
def nt_i16 (x : Int32) : Int32 := x.toInt16.toInt32
def nt_u16 (x : Int32) : Int32 := (x.toUInt32 % 65536).toInt32
def nt_max (x y : Int32) : Int32 := if x < y then y else x
def nt_min (x y : Int32) : Int32 := if y < x then y else x
theorem nt_cb_m100 : (Int8.ofInt (-100)).toInt32 = (-100 : Int32) := by decide
theorem nt_cb_m99 : (Int8.ofInt (-99)).toInt32 = (-99 : Int32) := by decide
theorem nt_cb_m14 : (Int8.ofInt (-14)).toInt32 = (-14 : Int32) := by decide
theorem nt_cb_m13 : (Int8.ofInt (-13)).toInt32 = (-13 : Int32) := by decide
theorem nt_cb_m12 : (Int8.ofInt (-12)).toInt32 = (-12 : Int32) := by decide
theorem nt_cb_m11 : (Int8.ofInt (-11)).toInt32 = (-11 : Int32) := by decide
theorem nt_cb_m4 : (Int8.ofInt (-4)).toInt32 = (-4 : Int32) := by decide
theorem nt_cb_m3 : (Int8.ofInt (-3)).toInt32 = (-3 : Int32) := by decide
theorem nt_cb_m2 : (Int8.ofInt (-2)).toInt32 = (-2 : Int32) := by decide
theorem nt_cb_6 : (Int8.ofInt (6)).toInt32 = (6 : Int32) := by decide
theorem nt_cb_7 : (Int8.ofInt (7)).toInt32 = (7 : Int32) := by decide
theorem nt_cb_8 : (Int8.ofInt (8)).toInt32 = (8 : Int32) := by decide
theorem nt_cb_9 : (Int8.ofInt (9)).toInt32 = (9 : Int32) := by decide
theorem nt_cb_10 : (Int8.ofInt (10)).toInt32 = (10 : Int32) := by decide
theorem nt_cb_12 : (Int8.ofInt (12)).toInt32 = (12 : Int32) := by decide
theorem nt_cb_13 : (Int8.ofInt (13)).toInt32 = (13 : Int32) := by decide
theorem nt_cb_14 : (Int8.ofInt (14)).toInt32 = (14 : Int32) := by decide
theorem nt_cb_15 : (Int8.ofInt (15)).toInt32 = (15 : Int32) := by decide
theorem nt_cb_16 : (Int8.ofInt (16)).toInt32 = (16 : Int32) := by decide
theorem nt_cb_17 : (Int8.ofInt (17)).toInt32 = (17 : Int32) := by decide
theorem nt_cb_20 : (Int8.ofInt (20)).toInt32 = (20 : Int32) := by decide
theorem nt_cb_21 : (Int8.ofInt (21)).toInt32 = (21 : Int32) := by decide
theorem nt_cb_22 : (Int8.ofInt (22)).toInt32 = (22 : Int32) := by decide
theorem nt_cb_24 : (Int8.ofInt (24)).toInt32 = (24 : Int32) := by decide
theorem nt_cb_30 : (Int8.ofInt (30)).toInt32 = (30 : Int32) := by decide
theorem nt_cb_31 : (Int8.ofInt (31)).toInt32 = (31 : Int32) := by decide
theorem nt_cb_32 : (Int8.ofInt (32)).toInt32 = (32 : Int32) := by decide
theorem nt_cb_40 : (Int8.ofInt (40)).toInt32 = (40 : Int32) := by decide
theorem nt_cb_41 : (Int8.ofInt (41)).toInt32 = (41 : Int32) := by decide
theorem nt_cb_42 : (Int8.ofInt (42)).toInt32 = (42 : Int32) := by decide
theorem nt_cb_43 : (Int8.ofInt (43)).toInt32 = (43 : Int32) := by decide
theorem nt_cb_45 : (Int8.ofInt (45)).toInt32 = (45 : Int32) := by decide
theorem nt_cb_48 : (Int8.ofInt (48)).toInt32 = (48 : Int32) := by decide
theorem nt_cb_49 : (Int8.ofInt (49)).toInt32 = (49 : Int32) := by decide
theorem nt_cb_50 : (Int8.ofInt (50)).toInt32 = (50 : Int32) := by decide
theorem nt_cb_52 : (Int8.ofInt (52)).toInt32 = (52 : Int32) := by decide
theorem nt_cb_56 : (Int8.ofInt (56)).toInt32 = (56 : Int32) := by decide
theorem nt_cb_57 : (Int8.ofInt (57)).toInt32 = (57 : Int32) := by decide
theorem nt_cb_59 : (Int8.ofInt (59)).toInt32 = (59 : Int32) := by decide
theorem nt_cb_60 : (Int8.ofInt (60)).toInt32 = (60 : Int32) := by decide
theorem nt_cb_61 : (Int8.ofInt (61)).toInt32 = (61 : Int32) := by decide
theorem nt_cb_63 : (Int8.ofInt (63)).toInt32 = (63 : Int32) := by decide
theorem nt_cb_64 : (Int8.ofInt (64)).toInt32 = (64 : Int32) := by decide
theorem nt_cb_72 : (Int8.ofInt (72)).toInt32 = (72 : Int32) := by decide
theorem nt_cb_97 : (Int8.ofInt (97)).toInt32 = (97 : Int32) := by decide
theorem nt_cb_99 : (Int8.ofInt (99)).toInt32 = (99 : Int32) := by decide
theorem nt_cb_100 : (Int8.ofInt (100)).toInt32 = (100 : Int32) := by decide
theorem nt_cb_101 : (Int8.ofInt (101)).toInt32 = (101 : Int32) := by decide
theorem nt_cb_103 : (Int8.ofInt (103)).toInt32 = (103 : Int32) := by decide
theorem nt_cb_104 : (Int8.ofInt (104)).toInt32 = (104 : Int32) := by decide
theorem nt_cb_105 : (Int8.ofInt (105)).toInt32 = (105 : Int32) := by decide
theorem nt_cb_107 : (Int8.ofInt (107)).toInt32 = (107 : Int32) := by decide
theorem nt_cb_108 : (Int8.ofInt (108)).toInt32 = (108 : Int32) := by decide
theorem nt_cb_109 : (Int8.ofInt (109)).toInt32 = (109 : Int32) := by decide
theorem nt_cb_110 : (Int8.ofInt (110)).toInt32 = (110 : Int32) := by decide
theorem nt_cb_111 : (Int8.ofInt (111)).toInt32 = (111 : Int32) := by decide
theorem nt_cb_112 : (Int8.ofInt (112)).toInt32 = (112 : Int32) := by decide
theorem nt_cb_114 : (Int8.ofInt (114)).toInt32 = (114 : Int32) := by decide
theorem nt_cb_115 : (Int8.ofInt (115)).toInt32 = (115 : Int32) := by decide
theorem nt_cb_116 : (Int8.ofInt (116)).toInt32 = (116 : Int32) := by decide
theorem nt_cb_119 : (Int8.ofInt (119)).toInt32 = (119 : Int32) := by decide
theorem nt_cb_121 : (Int8.ofInt (121)).toInt32 = (121 : Int32) := by decide
theorem nt_cb_122 : (Int8.ofInt (122)).toInt32 = (122 : Int32) := by decide
theorem nt_ci_m1 : Int32.ofInt (-1) = (-1 : Int32) := by decide
theorem nt_ci_0 : Int32.ofInt (0) = (0 : Int32) := by decide
theorem nt_ci_1 : Int32.ofInt (1) = (1 : Int32) := by decide
theorem nt_ci_2 : Int32.ofInt (2) = (2 : Int32) := by decide
theorem nt_ci_3 : Int32.ofInt (3) = (3 : Int32) := by decide
theorem nt_ci_4 : Int32.ofInt (4) = (4 : Int32) := by decide
theorem nt_ci_5 : Int32.ofInt (5) = (5 : Int32) := by decide
theorem nt_cl_0 : Int64.ofNat ((0 : Fin 2) : Nat) = (0 : Int64) := by decide
theorem nt_cl_1 : Int64.ofNat ((1 : Fin 2) : Nat) = (1 : Int64) := by decide
theorem nt_cs_160 : (Int16.ofInt (160)).toInt32 = (160 : Int32) := by decide
theorem nt_cs_255 : (Int16.ofInt (255)).toInt32 = (255 : Int32) := by decide
theorem nt_cs_256 : (Int16.ofInt (256)).toInt32 = (256 : Int32) := by decide
theorem nt_cs_400 : (Int16.ofInt (400)).toInt32 = (400 : Int32) := by decide
theorem nt_cs_576 : (Int16.ofInt (576)).toInt32 = (576 : Int32) := by decide
theorem nt_cs_960 : (Int16.ofInt (960)).toInt32 = (960 : Int32) := by decide
theorem nt_cs_999 : (Int16.ofInt (999)).toInt32 = (999 : Int32) := by decide
theorem nt_cs_1023 : (Int16.ofInt (1023)).toInt32 = (1023 : Int32) := by decide
theorem nt_cs_4096 : (Int16.ofInt (4096)).toInt32 = (4096 : Int32) := by decide
theorem nt_cs_12345 : (Int16.ofInt (12345)).toInt32 = (12345 : Int32) := by decide
theorem hd_J0_charAt_5068e : yJ0_charAt_5068e.cls ≠ "java/lang/invoke/MethodHandle" ∧ yJ0_charAt_5068e.cls ≠ "java/lang/invoke/VarHandle" ∧ (parseMethodDescriptor yJ0_charAt_5068e.desc).map (fun d => d.parameters.length) = some 1 := by decide +kernel
theorem hd_J0_checkBoundsBeginEnd_23922 : yJ0_checkBoundsBeginEnd_23922.cls ≠ "java/lang/invoke/MethodHandle" ∧ yJ0_checkBoundsBeginEnd_23922.cls ≠ "java/lang/invoke/VarHandle" ∧ (parseMethodDescriptor yJ0_checkBoundsBeginEnd_23922.desc).map (fun d => d.parameters.length) = some 3 := by decide +kernel
theorem hd_J0_checkIndex_df160 : yJ0_checkIndex_df160.cls ≠ "java/lang/invoke/MethodHandle" ∧ yJ0_checkIndex_df160.cls ≠ "java/lang/invoke/VarHandle" ∧ (parseMethodDescriptor yJ0_checkIndex_df160.desc).map (fun d => d.parameters.length) = some 2 := by decide +kernel
theorem hd_J0_coder_7d493 : yJ0_coder_7d493.cls ≠ "java/lang/invoke/MethodHandle" ∧ yJ0_coder_7d493.cls ≠ "java/lang/invoke/VarHandle" ∧ (parseMethodDescriptor yJ0_coder_7d493.desc).map (fun d => d.parameters.length) = some 0 := by decide +kernel
theorem hd_J0_indexOf_0f7a4 : yJ0_indexOf_0f7a4.cls ≠ "java/lang/invoke/MethodHandle" ∧ yJ0_indexOf_0f7a4.cls ≠ "java/lang/invoke/VarHandle" ∧ (parseMethodDescriptor yJ0_indexOf_0f7a4.desc).map (fun d => d.parameters.length) = some 1 := by decide +kernel
theorem hd_J0_indexOf_7cf53 : yJ0_indexOf_7cf53.cls ≠ "java/lang/invoke/MethodHandle" ∧ yJ0_indexOf_7cf53.cls ≠ "java/lang/invoke/VarHandle" ∧ (parseMethodDescriptor yJ0_indexOf_7cf53.desc).map (fun d => d.parameters.length) = some 2 := by decide +kernel
theorem hd_J0_isLatin1_aae02 : yJ0_isLatin1_aae02.cls ≠ "java/lang/invoke/MethodHandle" ∧ yJ0_isLatin1_aae02.cls ≠ "java/lang/invoke/VarHandle" ∧ (parseMethodDescriptor yJ0_isLatin1_aae02.desc).map (fun d => d.parameters.length) = some 0 := by decide +kernel
theorem hd_J0_length_8abf5 : yJ0_length_8abf5.cls ≠ "java/lang/invoke/MethodHandle" ∧ yJ0_length_8abf5.cls ≠ "java/lang/invoke/VarHandle" ∧ (parseMethodDescriptor yJ0_length_8abf5.desc).map (fun d => d.parameters.length) = some 0 := by decide +kernel
theorem hd_J11_highSurrogate_5068e : yJ11_highSurrogate_5068e.cls ≠ "java/lang/invoke/MethodHandle" ∧ yJ11_highSurrogate_5068e.cls ≠ "java/lang/invoke/VarHandle" ∧ (parseMethodDescriptor yJ11_highSurrogate_5068e.desc).map (fun d => d.parameters.length) = some 1 := by decide +kernel
theorem hd_J11_isValidCodePoint_9a6ad : yJ11_isValidCodePoint_9a6ad.cls ≠ "java/lang/invoke/MethodHandle" ∧ yJ11_isValidCodePoint_9a6ad.cls ≠ "java/lang/invoke/VarHandle" ∧ (parseMethodDescriptor yJ11_isValidCodePoint_9a6ad.desc).map (fun d => d.parameters.length) = some 1 := by decide +kernel
theorem hd_J11_lowSurrogate_5068e : yJ11_lowSurrogate_5068e.cls ≠ "java/lang/invoke/MethodHandle" ∧ yJ11_lowSurrogate_5068e.cls ≠ "java/lang/invoke/VarHandle" ∧ (parseMethodDescriptor yJ11_lowSurrogate_5068e.desc).map (fun d => d.parameters.length) = some 1 := by decide +kernel
theorem hd_J1_canEncode_9a6ad : yJ1_canEncode_9a6ad.cls ≠ "java/lang/invoke/MethodHandle" ∧ yJ1_canEncode_9a6ad.cls ≠ "java/lang/invoke/VarHandle" ∧ (parseMethodDescriptor yJ1_canEncode_9a6ad.desc).map (fun d => d.parameters.length) = some 1 := by decide +kernel
theorem hd_J1_charAt_3b067 : yJ1_charAt_3b067.cls ≠ "java/lang/invoke/MethodHandle" ∧ yJ1_charAt_3b067.cls ≠ "java/lang/invoke/VarHandle" ∧ (parseMethodDescriptor yJ1_charAt_3b067.desc).map (fun d => d.parameters.length) = some 2 := by decide +kernel
theorem hd_J1_indexOfChar_4cfef : yJ1_indexOfChar_4cfef.cls ≠ "java/lang/invoke/MethodHandle" ∧ yJ1_indexOfChar_4cfef.cls ≠ "java/lang/invoke/VarHandle" ∧ (parseMethodDescriptor yJ1_indexOfChar_4cfef.desc).map (fun d => d.parameters.length) = some 4 := by decide +kernel
theorem hd_J1_indexOf_4cfef : yJ1_indexOf_4cfef.cls ≠ "java/lang/invoke/MethodHandle" ∧ yJ1_indexOf_4cfef.cls ≠ "java/lang/invoke/VarHandle" ∧ (parseMethodDescriptor yJ1_indexOf_4cfef.desc).map (fun d => d.parameters.length) = some 4 := by decide +kernel
theorem hd_J2_charAt_3b067 : yJ2_charAt_3b067.cls ≠ "java/lang/invoke/MethodHandle" ∧ yJ2_charAt_3b067.cls ≠ "java/lang/invoke/VarHandle" ∧ (parseMethodDescriptor yJ2_charAt_3b067.desc).map (fun d => d.parameters.length) = some 2 := by decide +kernel
theorem hd_J2_checkBoundsBeginEnd_d044e : yJ2_checkBoundsBeginEnd_d044e.cls ≠ "java/lang/invoke/MethodHandle" ∧ yJ2_checkBoundsBeginEnd_d044e.cls ≠ "java/lang/invoke/VarHandle" ∧ (parseMethodDescriptor yJ2_checkBoundsBeginEnd_d044e.desc).map (fun d => d.parameters.length) = some 3 := by decide +kernel
theorem hd_J2_checkIndex_2214a : yJ2_checkIndex_2214a.cls ≠ "java/lang/invoke/MethodHandle" ∧ yJ2_checkIndex_2214a.cls ≠ "java/lang/invoke/VarHandle" ∧ (parseMethodDescriptor yJ2_checkIndex_2214a.desc).map (fun d => d.parameters.length) = some 2 := by decide +kernel
theorem hd_J2_getChar_3b067 : yJ2_getChar_3b067.cls ≠ "java/lang/invoke/MethodHandle" ∧ yJ2_getChar_3b067.cls ≠ "java/lang/invoke/VarHandle" ∧ (parseMethodDescriptor yJ2_getChar_3b067.desc).map (fun d => d.parameters.length) = some 2 := by decide +kernel
theorem hd_J2_indexOfCharUnsafe_4cfef : yJ2_indexOfCharUnsafe_4cfef.cls ≠ "java/lang/invoke/MethodHandle" ∧ yJ2_indexOfCharUnsafe_4cfef.cls ≠ "java/lang/invoke/VarHandle" ∧ (parseMethodDescriptor yJ2_indexOfCharUnsafe_4cfef.desc).map (fun d => d.parameters.length) = some 4 := by decide +kernel
theorem hd_J2_indexOfChar_4cfef : yJ2_indexOfChar_4cfef.cls ≠ "java/lang/invoke/MethodHandle" ∧ yJ2_indexOfChar_4cfef.cls ≠ "java/lang/invoke/VarHandle" ∧ (parseMethodDescriptor yJ2_indexOfChar_4cfef.desc).map (fun d => d.parameters.length) = some 4 := by decide +kernel
theorem hd_J2_indexOfSupplementary_4cfef : yJ2_indexOfSupplementary_4cfef.cls ≠ "java/lang/invoke/MethodHandle" ∧ yJ2_indexOfSupplementary_4cfef.cls ≠ "java/lang/invoke/VarHandle" ∧ (parseMethodDescriptor yJ2_indexOfSupplementary_4cfef.desc).map (fun d => d.parameters.length) = some 4 := by decide +kernel
theorem hd_J2_indexOf_4cfef : yJ2_indexOf_4cfef.cls ≠ "java/lang/invoke/MethodHandle" ∧ yJ2_indexOf_4cfef.cls ≠ "java/lang/invoke/VarHandle" ∧ (parseMethodDescriptor yJ2_indexOf_4cfef.desc).map (fun d => d.parameters.length) = some 4 := by decide +kernel
theorem hd_J2_length_9d52b : yJ2_length_9d52b.cls ≠ "java/lang/invoke/MethodHandle" ∧ yJ2_length_9d52b.cls ≠ "java/lang/invoke/VarHandle" ∧ (parseMethodDescriptor yJ2_length_9d52b.desc).map (fun d => d.parameters.length) = some 1 := by decide +kernel
theorem hd_J3_checkFromToIndex_8c36e : yJ3_checkFromToIndex_8c36e.cls ≠ "java/lang/invoke/MethodHandle" ∧ yJ3_checkFromToIndex_8c36e.cls ≠ "java/lang/invoke/VarHandle" ∧ (parseMethodDescriptor yJ3_checkFromToIndex_8c36e.desc).map (fun d => d.parameters.length) = some 4 := by decide +kernel
theorem hd_J3_checkIndex_8e157 : yJ3_checkIndex_8e157.cls ≠ "java/lang/invoke/MethodHandle" ∧ yJ3_checkIndex_8e157.cls ≠ "java/lang/invoke/VarHandle" ∧ (parseMethodDescriptor yJ3_checkIndex_8e157.desc).map (fun d => d.parameters.length) = some 3 := by decide +kernel
theorem hd_J6_bitCount_0f7a4 : yJ6_bitCount_0f7a4.cls ≠ "java/lang/invoke/MethodHandle" ∧ yJ6_bitCount_0f7a4.cls ≠ "java/lang/invoke/VarHandle" ∧ (parseMethodDescriptor yJ6_bitCount_0f7a4.desc).map (fun d => d.parameters.length) = some 1 := by decide +kernel
theorem hd_X0_bestOf : yX0_bestOf.cls ≠ "java/lang/invoke/MethodHandle" ∧ yX0_bestOf.cls ≠ "java/lang/invoke/VarHandle" ∧ (parseMethodDescriptor yX0_bestOf.desc).map (fun d => d.parameters.length) = some 1 := by decide +kernel
theorem hd_X0_bounded : yX0_bounded.cls ≠ "java/lang/invoke/MethodHandle" ∧ yX0_bounded.cls ≠ "java/lang/invoke/VarHandle" ∧ (parseMethodDescriptor yX0_bounded.desc).map (fun d => d.parameters.length) = some 2 := by decide +kernel
theorem hd_X0_byWhom : yX0_byWhom.cls ≠ "java/lang/invoke/MethodHandle" ∧ yX0_byWhom.cls ≠ "java/lang/invoke/VarHandle" ∧ (parseMethodDescriptor yX0_byWhom.desc).map (fun d => d.parameters.length) = some 2 := by decide +kernel
theorem hd_X0_come : yX0_come.cls ≠ "java/lang/invoke/MethodHandle" ∧ yX0_come.cls ≠ "java/lang/invoke/VarHandle" ∧ (parseMethodDescriptor yX0_come.desc).map (fun d => d.parameters.length) = some 2 := by decide +kernel
theorem hd_X0_firstTeller : yX0_firstTeller.cls ≠ "java/lang/invoke/MethodHandle" ∧ yX0_firstTeller.cls ≠ "java/lang/invoke/VarHandle" ∧ (parseMethodDescriptor yX0_firstTeller.desc).map (fun d => d.parameters.length) = some 2 := by decide +kernel
theorem hd_X0_forget : yX0_forget.cls ≠ "java/lang/invoke/MethodHandle" ∧ yX0_forget.cls ≠ "java/lang/invoke/VarHandle" ∧ (parseMethodDescriptor yX0_forget.desc).map (fun d => d.parameters.length) = some 2 := by decide +kernel
theorem hd_X0_goBackTo : yX0_goBackTo.cls ≠ "java/lang/invoke/MethodHandle" ∧ yX0_goBackTo.cls ≠ "java/lang/invoke/VarHandle" ∧ (parseMethodDescriptor yX0_goBackTo.desc).map (fun d => d.parameters.length) = some 1 := by decide +kernel
theorem hd_X0_has : yX0_has.cls ≠ "java/lang/invoke/MethodHandle" ∧ yX0_has.cls ≠ "java/lang/invoke/VarHandle" ∧ (parseMethodDescriptor yX0_has.desc).map (fun d => d.parameters.length) = some 1 := by decide +kernel
theorem hd_X0_hear : yX0_hear.cls ≠ "java/lang/invoke/MethodHandle" ∧ yX0_hear.cls ≠ "java/lang/invoke/VarHandle" ∧ (parseMethodDescriptor yX0_hear.desc).map (fun d => d.parameters.length) = some 2 := by decide +kernel
theorem hd_X0_init : yX0_init.cls ≠ "java/lang/invoke/MethodHandle" ∧ yX0_init.cls ≠ "java/lang/invoke/VarHandle" ∧ (parseMethodDescriptor yX0_init.desc).map (fun d => d.parameters.length) = some 2 := by decide +kernel
theorem hd_X0_knows : yX0_knows.cls ≠ "java/lang/invoke/MethodHandle" ∧ yX0_knows.cls ≠ "java/lang/invoke/VarHandle" ∧ (parseMethodDescriptor yX0_knows.desc).map (fun d => d.parameters.length) = some 1 := by decide +kernel
theorem hd_X0_lookInto : yX0_lookInto.cls ≠ "java/lang/invoke/MethodHandle" ∧ yX0_lookInto.cls ≠ "java/lang/invoke/VarHandle" ∧ (parseMethodDescriptor yX0_lookInto.desc).map (fun d => d.parameters.length) = some 1 := by decide +kernel
theorem hd_X0_newToOthers : yX0_newToOthers.cls ≠ "java/lang/invoke/MethodHandle" ∧ yX0_newToOthers.cls ≠ "java/lang/invoke/VarHandle" ∧ (parseMethodDescriptor yX0_newToOthers.desc).map (fun d => d.parameters.length) = some 1 := by decide +kernel
theorem hd_X0_sit : yX0_sit.cls ≠ "java/lang/invoke/MethodHandle" ∧ yX0_sit.cls ≠ "java/lang/invoke/VarHandle" ∧ (parseMethodDescriptor yX0_sit.desc).map (fun d => d.parameters.length) = some 3 := by decide +kernel
theorem hd_X0_sleep : yX0_sleep.cls ≠ "java/lang/invoke/MethodHandle" ∧ yX0_sleep.cls ≠ "java/lang/invoke/VarHandle" ∧ (parseMethodDescriptor yX0_sleep.desc).map (fun d => d.parameters.length) = some 0 := by decide +kernel
theorem hd_X0_spend : yX0_spend.cls ≠ "java/lang/invoke/MethodHandle" ∧ yX0_spend.cls ≠ "java/lang/invoke/VarHandle" ∧ (parseMethodDescriptor yX0_spend.desc).map (fun d => d.parameters.length) = some 2 := by decide +kernel
theorem hd_X0_takeAll : yX0_takeAll.cls ≠ "java/lang/invoke/MethodHandle" ∧ yX0_takeAll.cls ≠ "java/lang/invoke/VarHandle" ∧ (parseMethodDescriptor yX0_takeAll.desc).map (fun d => d.parameters.length) = some 1 := by decide +kernel
theorem hd_X0_tellableBy : yX0_tellableBy.cls ≠ "java/lang/invoke/MethodHandle" ∧ yX0_tellableBy.cls ≠ "java/lang/invoke/VarHandle" ∧ (parseMethodDescriptor yX0_tellableBy.desc).map (fun d => d.parameters.length) = some 1 := by decide +kernel
theorem hd_X0_tellableIn : yX0_tellableIn.cls ≠ "java/lang/invoke/MethodHandle" ∧ yX0_tellableIn.cls ≠ "java/lang/invoke/VarHandle" ∧ (parseMethodDescriptor yX0_tellableIn.desc).map (fun d => d.parameters.length) = some 1 := by decide +kernel
theorem hd_X0_tellableOf : yX0_tellableOf.cls ≠ "java/lang/invoke/MethodHandle" ∧ yX0_tellableOf.cls ≠ "java/lang/invoke/VarHandle" ∧ (parseMethodDescriptor yX0_tellableOf.desc).map (fun d => d.parameters.length) = some 2 := by decide +kernel
theorem hd_X0_unheardIn : yX0_unheardIn.cls ≠ "java/lang/invoke/MethodHandle" ∧ yX0_unheardIn.cls ≠ "java/lang/invoke/VarHandle" ∧ (parseMethodDescriptor yX0_unheardIn.desc).map (fun d => d.parameters.length) = some 1 := by decide +kernel
theorem hd_X0_value : yX0_value.cls ≠ "java/lang/invoke/MethodHandle" ∧ yX0_value.cls ≠ "java/lang/invoke/VarHandle" ∧ (parseMethodDescriptor yX0_value.desc).map (fun d => d.parameters.length) = some 4 := by decide +kernel
theorem hd_X0_worthBy : yX0_worthBy.cls ≠ "java/lang/invoke/MethodHandle" ∧ yX0_worthBy.cls ≠ "java/lang/invoke/VarHandle" ∧ (parseMethodDescriptor yX0_worthBy.desc).map (fun d => d.parameters.length) = some 2 := by decide +kernel
theorem hd_X0_worthOf : yX0_worthOf.cls ≠ "java/lang/invoke/MethodHandle" ∧ yX0_worthOf.cls ≠ "java/lang/invoke/VarHandle" ∧ (parseMethodDescriptor yX0_worthOf.desc).map (fun d => d.parameters.length) = some 2 := by decide +kernel
theorem hd_X1_empty : yX1_empty.cls ≠ "java/lang/invoke/MethodHandle" ∧ yX1_empty.cls ≠ "java/lang/invoke/VarHandle" ∧ (parseMethodDescriptor yX1_empty.desc).map (fun d => d.parameters.length) = some 0 := by decide +kernel
theorem hd_X1_init : yX1_init.cls ≠ "java/lang/invoke/MethodHandle" ∧ yX1_init.cls ≠ "java/lang/invoke/VarHandle" ∧ (parseMethodDescriptor yX1_init.desc).map (fun d => d.parameters.length) = some 0 := by decide +kernel
theorem hd_X1_isDigit : yX1_isDigit.cls ≠ "java/lang/invoke/MethodHandle" ∧ yX1_isDigit.cls ≠ "java/lang/invoke/VarHandle" ∧ (parseMethodDescriptor yX1_isDigit.desc).map (fun d => d.parameters.length) = some 1 := by decide +kernel
theorem hd_X1_isLetter : yX1_isLetter.cls ≠ "java/lang/invoke/MethodHandle" ∧ yX1_isLetter.cls ≠ "java/lang/invoke/VarHandle" ∧ (parseMethodDescriptor yX1_isLetter.desc).map (fun d => d.parameters.length) = some 1 := by decide +kernel
theorem hd_X1_levelOf : yX1_levelOf.cls ≠ "java/lang/invoke/MethodHandle" ∧ yX1_levelOf.cls ≠ "java/lang/invoke/VarHandle" ∧ (parseMethodDescriptor yX1_levelOf.desc).map (fun d => d.parameters.length) = some 1 := by decide +kernel
theorem hd_X1_made : yX1_made.cls ≠ "java/lang/invoke/MethodHandle" ∧ yX1_made.cls ≠ "java/lang/invoke/VarHandle" ∧ (parseMethodDescriptor yX1_made.desc).map (fun d => d.parameters.length) = some 0 := by decide +kernel
theorem hd_X1_numeral : yX1_numeral.cls ≠ "java/lang/invoke/MethodHandle" ∧ yX1_numeral.cls ≠ "java/lang/invoke/VarHandle" ∧ (parseMethodDescriptor yX1_numeral.desc).map (fun d => d.parameters.length) = some 0 := by decide +kernel
theorem hd_X1_place : yX1_place.cls ≠ "java/lang/invoke/MethodHandle" ∧ yX1_place.cls ≠ "java/lang/invoke/VarHandle" ∧ (parseMethodDescriptor yX1_place.desc).map (fun d => d.parameters.length) = some 0 := by decide +kernel
theorem hd_X1_put : yX1_put.cls ≠ "java/lang/invoke/MethodHandle" ∧ yX1_put.cls ≠ "java/lang/invoke/VarHandle" ∧ (parseMethodDescriptor yX1_put.desc).map (fun d => d.parameters.length) = some 1 := by decide +kernel
theorem hd_X1_putFirstText : yX1_putFirstText.cls ≠ "java/lang/invoke/MethodHandle" ∧ yX1_putFirstText.cls ≠ "java/lang/invoke/VarHandle" ∧ (parseMethodDescriptor yX1_putFirstText.desc).map (fun d => d.parameters.length) = some 0 := by decide +kernel
theorem hd_X1_reads : yX1_reads.cls ≠ "java/lang/invoke/MethodHandle" ∧ yX1_reads.cls ≠ "java/lang/invoke/VarHandle" ∧ (parseMethodDescriptor yX1_reads.desc).map (fun d => d.parameters.length) = some 0 := by decide +kernel
theorem hd_X1_readsLevel : yX1_readsLevel.cls ≠ "java/lang/invoke/MethodHandle" ∧ yX1_readsLevel.cls ≠ "java/lang/invoke/VarHandle" ∧ (parseMethodDescriptor yX1_readsLevel.desc).map (fun d => d.parameters.length) = some 1 := by decide +kernel
theorem hd_X1_readsOpened : yX1_readsOpened.cls ≠ "java/lang/invoke/MethodHandle" ∧ yX1_readsOpened.cls ≠ "java/lang/invoke/VarHandle" ∧ (parseMethodDescriptor yX1_readsOpened.desc).map (fun d => d.parameters.length) = some 0 := by decide +kernel
theorem hd_X1_readsPlain : yX1_readsPlain.cls ≠ "java/lang/invoke/MethodHandle" ∧ yX1_readsPlain.cls ≠ "java/lang/invoke/VarHandle" ∧ (parseMethodDescriptor yX1_readsPlain.desc).map (fun d => d.parameters.length) = some 0 := by decide +kernel
theorem hd_X1_step : yX1_step.cls ≠ "java/lang/invoke/MethodHandle" ∧ yX1_step.cls ≠ "java/lang/invoke/VarHandle" ∧ (parseMethodDescriptor yX1_step.desc).map (fun d => d.parameters.length) = some 0 := by decide +kernel
theorem hd_X1_takes : yX1_takes.cls ≠ "java/lang/invoke/MethodHandle" ∧ yX1_takes.cls ≠ "java/lang/invoke/VarHandle" ∧ (parseMethodDescriptor yX1_takes.desc).map (fun d => d.parameters.length) = some 1 := by decide +kernel
theorem hd_X1_word : yX1_word.cls ≠ "java/lang/invoke/MethodHandle" ∧ yX1_word.cls ≠ "java/lang/invoke/VarHandle" ∧ (parseMethodDescriptor yX1_word.desc).map (fun d => d.parameters.length) = some 0 := by decide +kernel
theorem hd_X1_write : yX1_write.cls ≠ "java/lang/invoke/MethodHandle" ∧ yX1_write.cls ≠ "java/lang/invoke/VarHandle" ∧ (parseMethodDescriptor yX1_write.desc).map (fun d => d.parameters.length) = some 1 := by decide +kernel
theorem hd_X2_init : yX2_init.cls ≠ "java/lang/invoke/MethodHandle" ∧ yX2_init.cls ≠ "java/lang/invoke/VarHandle" ∧ (parseMethodDescriptor yX2_init.desc).map (fun d => d.parameters.length) = some 4 := by decide +kernel
theorem hd_X2_joined : yX2_joined.cls ≠ "java/lang/invoke/MethodHandle" ∧ yX2_joined.cls ≠ "java/lang/invoke/VarHandle" ∧ (parseMethodDescriptor yX2_joined.desc).map (fun d => d.parameters.length) = some 3 := by decide +kernel
theorem hd_X2_value : yX2_value.cls ≠ "java/lang/invoke/MethodHandle" ∧ yX2_value.cls ≠ "java/lang/invoke/VarHandle" ∧ (parseMethodDescriptor yX2_value.desc).map (fun d => d.parameters.length) = some 3 := by decide +kernel
theorem hd_X3_awakeOf : yX3_awakeOf.cls ≠ "java/lang/invoke/MethodHandle" ∧ yX3_awakeOf.cls ≠ "java/lang/invoke/VarHandle" ∧ (parseMethodDescriptor yX3_awakeOf.desc).map (fun d => d.parameters.length) = some 2 := by decide +kernel
theorem hd_X3_fillHouses : yX3_fillHouses.cls ≠ "java/lang/invoke/MethodHandle" ∧ yX3_fillHouses.cls ≠ "java/lang/invoke/VarHandle" ∧ (parseMethodDescriptor yX3_fillHouses.desc).map (fun d => d.parameters.length) = some 1 := by decide +kernel
theorem hd_X3_housesWithStory : yX3_housesWithStory.cls ≠ "java/lang/invoke/MethodHandle" ∧ yX3_housesWithStory.cls ≠ "java/lang/invoke/VarHandle" ∧ (parseMethodDescriptor yX3_housesWithStory.desc).map (fun d => d.parameters.length) = some 1 := by decide +kernel
theorem hd_X3_init : yX3_init.cls ≠ "java/lang/invoke/MethodHandle" ∧ yX3_init.cls ≠ "java/lang/invoke/VarHandle" ∧ (parseMethodDescriptor yX3_init.desc).map (fun d => d.parameters.length) = some 1 := by decide +kernel
theorem hd_X3_nextWay : yX3_nextWay.cls ≠ "java/lang/invoke/MethodHandle" ∧ yX3_nextWay.cls ≠ "java/lang/invoke/VarHandle" ∧ (parseMethodDescriptor yX3_nextWay.desc).map (fun d => d.parameters.length) = some 1 := by decide +kernel
theorem hd_X3_prepare : yX3_prepare.cls ≠ "java/lang/invoke/MethodHandle" ∧ yX3_prepare.cls ≠ "java/lang/invoke/VarHandle" ∧ (parseMethodDescriptor yX3_prepare.desc).map (fun d => d.parameters.length) = some 0 := by decide +kernel
theorem hd_X3_search : yX3_search.cls ≠ "java/lang/invoke/MethodHandle" ∧ yX3_search.cls ≠ "java/lang/invoke/VarHandle" ∧ (parseMethodDescriptor yX3_search.desc).map (fun d => d.parameters.length) = some 1 := by decide +kernel
theorem hd_X3_waysOver : yX3_waysOver.cls ≠ "java/lang/invoke/MethodHandle" ∧ yX3_waysOver.cls ≠ "java/lang/invoke/VarHandle" ∧ (parseMethodDescriptor yX3_waysOver.desc).map (fun d => d.parameters.length) = some 1 := by decide +kernel
theorem hd_X4_at : yX4_at.cls ≠ "java/lang/invoke/MethodHandle" ∧ yX4_at.cls ≠ "java/lang/invoke/VarHandle" ∧ (parseMethodDescriptor yX4_at.desc).map (fun d => d.parameters.length) = some 2 := by decide +kernel
theorem hd_X4_carry : yX4_carry.cls ≠ "java/lang/invoke/MethodHandle" ∧ yX4_carry.cls ≠ "java/lang/invoke/VarHandle" ∧ (parseMethodDescriptor yX4_carry.desc).map (fun d => d.parameters.length) = some 5 := by decide +kernel
theorem hd_X4_has : yX4_has.cls ≠ "java/lang/invoke/MethodHandle" ∧ yX4_has.cls ≠ "java/lang/invoke/VarHandle" ∧ (parseMethodDescriptor yX4_has.desc).map (fun d => d.parameters.length) = some 1 := by decide +kernel
theorem hd_X4_hasRun : yX4_hasRun.cls ≠ "java/lang/invoke/MethodHandle" ∧ yX4_hasRun.cls ≠ "java/lang/invoke/VarHandle" ∧ (parseMethodDescriptor yX4_hasRun.desc).map (fun d => d.parameters.length) = some 3 := by decide +kernel
theorem hd_X4_init : yX4_init.cls ≠ "java/lang/invoke/MethodHandle" ∧ yX4_init.cls ≠ "java/lang/invoke/VarHandle" ∧ (parseMethodDescriptor yX4_init.desc).map (fun d => d.parameters.length) = some 0 := by decide +kernel
theorem hd_X4_isMissing : yX4_isMissing.cls ≠ "java/lang/invoke/MethodHandle" ∧ yX4_isMissing.cls ≠ "java/lang/invoke/VarHandle" ∧ (parseMethodDescriptor yX4_isMissing.desc).map (fun d => d.parameters.length) = some 1 := by decide +kernel
theorem hd_X4_lay : yX4_lay.cls ≠ "java/lang/invoke/MethodHandle" ∧ yX4_lay.cls ≠ "java/lang/invoke/VarHandle" ∧ (parseMethodDescriptor yX4_lay.desc).map (fun d => d.parameters.length) = some 3 := by decide +kernel
theorem hd_X4_reaches : yX4_reaches.cls ≠ "java/lang/invoke/MethodHandle" ∧ yX4_reaches.cls ≠ "java/lang/invoke/VarHandle" ∧ (parseMethodDescriptor yX4_reaches.desc).map (fun d => d.parameters.length) = some 2 := by decide +kernel
theorem hd_X4_write : yX4_write.cls ≠ "java/lang/invoke/MethodHandle" ∧ yX4_write.cls ≠ "java/lang/invoke/VarHandle" ∧ (parseMethodDescriptor yX4_write.desc).map (fun d => d.parameters.length) = some 3 := by decide +kernel
theorem hd_X5_add : yX5_add.cls ≠ "java/lang/invoke/MethodHandle" ∧ yX5_add.cls ≠ "java/lang/invoke/VarHandle" ∧ (parseMethodDescriptor yX5_add.desc).map (fun d => d.parameters.length) = some 3 := by decide +kernel
theorem hd_X5_all : yX5_all.cls ≠ "java/lang/invoke/MethodHandle" ∧ yX5_all.cls ≠ "java/lang/invoke/VarHandle" ∧ (parseMethodDescriptor yX5_all.desc).map (fun d => d.parameters.length) = some 0 := by decide +kernel
theorem hd_X5_counts : yX5_counts.cls ≠ "java/lang/invoke/MethodHandle" ∧ yX5_counts.cls ≠ "java/lang/invoke/VarHandle" ∧ (parseMethodDescriptor yX5_counts.desc).map (fun d => d.parameters.length) = some 2 := by decide +kernel
theorem hd_X5_has : yX5_has.cls ≠ "java/lang/invoke/MethodHandle" ∧ yX5_has.cls ≠ "java/lang/invoke/VarHandle" ∧ (parseMethodDescriptor yX5_has.desc).map (fun d => d.parameters.length) = some 1 := by decide +kernel
theorem hd_X5_init : yX5_init.cls ≠ "java/lang/invoke/MethodHandle" ∧ yX5_init.cls ≠ "java/lang/invoke/VarHandle" ∧ (parseMethodDescriptor yX5_init.desc).map (fun d => d.parameters.length) = some 0 := by decide +kernel
theorem hd_X5_isUnder : yX5_isUnder.cls ≠ "java/lang/invoke/MethodHandle" ∧ yX5_isUnder.cls ≠ "java/lang/invoke/VarHandle" ∧ (parseMethodDescriptor yX5_isUnder.desc).map (fun d => d.parameters.length) = some 2 := by decide +kernel
theorem hd_X5_join : yX5_join.cls ≠ "java/lang/invoke/MethodHandle" ∧ yX5_join.cls ≠ "java/lang/invoke/VarHandle" ∧ (parseMethodDescriptor yX5_join.desc).map (fun d => d.parameters.length) = some 2 := by decide +kernel
theorem hd_X5_part : yX5_part.cls ≠ "java/lang/invoke/MethodHandle" ∧ yX5_part.cls ≠ "java/lang/invoke/VarHandle" ∧ (parseMethodDescriptor yX5_part.desc).map (fun d => d.parameters.length) = some 1 := by decide +kernel
theorem hd_X5_stays : yX5_stays.cls ≠ "java/lang/invoke/MethodHandle" ∧ yX5_stays.cls ≠ "java/lang/invoke/VarHandle" ∧ (parseMethodDescriptor yX5_stays.desc).map (fun d => d.parameters.length) = some 1 := by decide +kernel
theorem hd_X5_withTwins : yX5_withTwins.cls ≠ "java/lang/invoke/MethodHandle" ∧ yX5_withTwins.cls ≠ "java/lang/invoke/VarHandle" ∧ (parseMethodDescriptor yX5_withTwins.desc).map (fun d => d.parameters.length) = some 1 := by decide +kernel
theorem hd_X7_add : yX7_add.cls ≠ "java/lang/invoke/MethodHandle" ∧ yX7_add.cls ≠ "java/lang/invoke/VarHandle" ∧ (parseMethodDescriptor yX7_add.desc).map (fun d => d.parameters.length) = some 1 := by decide +kernel
theorem hd_X7_at : yX7_at.cls ≠ "java/lang/invoke/MethodHandle" ∧ yX7_at.cls ≠ "java/lang/invoke/VarHandle" ∧ (parseMethodDescriptor yX7_at.desc).map (fun d => d.parameters.length) = some 1 := by decide +kernel
theorem hd_X7_has : yX7_has.cls ≠ "java/lang/invoke/MethodHandle" ∧ yX7_has.cls ≠ "java/lang/invoke/VarHandle" ∧ (parseMethodDescriptor yX7_has.desc).map (fun d => d.parameters.length) = some 1 := by decide +kernel
theorem hd_X7_init : yX7_init.cls ≠ "java/lang/invoke/MethodHandle" ∧ yX7_init.cls ≠ "java/lang/invoke/VarHandle" ∧ (parseMethodDescriptor yX7_init.desc).map (fun d => d.parameters.length) = some 0 := by decide +kernel
theorem hd_X7_isFull : yX7_isFull.cls ≠ "java/lang/invoke/MethodHandle" ∧ yX7_isFull.cls ≠ "java/lang/invoke/VarHandle" ∧ (parseMethodDescriptor yX7_isFull.desc).map (fun d => d.parameters.length) = some 0 := by decide +kernel
theorem hd_X8_back : yX8_back.cls ≠ "java/lang/invoke/MethodHandle" ∧ yX8_back.cls ≠ "java/lang/invoke/VarHandle" ∧ (parseMethodDescriptor yX8_back.desc).map (fun d => d.parameters.length) = some 0 := by decide +kernel
theorem hd_X8_by : yX8_by.cls ≠ "java/lang/invoke/MethodHandle" ∧ yX8_by.cls ≠ "java/lang/invoke/VarHandle" ∧ (parseMethodDescriptor yX8_by.desc).map (fun d => d.parameters.length) = some 2 := by decide +kernel
theorem hd_X8_canTellAll : yX8_canTellAll.cls ≠ "java/lang/invoke/MethodHandle" ∧ yX8_canTellAll.cls ≠ "java/lang/invoke/VarHandle" ∧ (parseMethodDescriptor yX8_canTellAll.desc).map (fun d => d.parameters.length) = some 2 := by decide +kernel
theorem hd_X8_cell : yX8_cell.cls ≠ "java/lang/invoke/MethodHandle" ∧ yX8_cell.cls ≠ "java/lang/invoke/VarHandle" ∧ (parseMethodDescriptor yX8_cell.desc).map (fun d => d.parameters.length) = some 3 := by decide +kernel
theorem hd_X8_copy : yX8_copy.cls ≠ "java/lang/invoke/MethodHandle" ∧ yX8_copy.cls ≠ "java/lang/invoke/VarHandle" ∧ (parseMethodDescriptor yX8_copy.desc).map (fun d => d.parameters.length) = some 5 := by decide +kernel
theorem hd_X8_count : yX8_count.cls ≠ "java/lang/invoke/MethodHandle" ∧ yX8_count.cls ≠ "java/lang/invoke/VarHandle" ∧ (parseMethodDescriptor yX8_count.desc).map (fun d => d.parameters.length) = some 1 := by decide +kernel
theorem hd_X8_drawn : yX8_drawn.cls ≠ "java/lang/invoke/MethodHandle" ∧ yX8_drawn.cls ≠ "java/lang/invoke/VarHandle" ∧ (parseMethodDescriptor yX8_drawn.desc).map (fun d => d.parameters.length) = some 2 := by decide +kernel
theorem hd_X8_feed : yX8_feed.cls ≠ "java/lang/invoke/MethodHandle" ∧ yX8_feed.cls ≠ "java/lang/invoke/VarHandle" ∧ (parseMethodDescriptor yX8_feed.desc).map (fun d => d.parameters.length) = some 1 := by decide +kernel
theorem hd_X8_force : yX8_force.cls ≠ "java/lang/invoke/MethodHandle" ∧ yX8_force.cls ≠ "java/lang/invoke/VarHandle" ∧ (parseMethodDescriptor yX8_force.desc).map (fun d => d.parameters.length) = some 1 := by decide +kernel
theorem hd_X8_goesOn : yX8_goesOn.cls ≠ "java/lang/invoke/MethodHandle" ∧ yX8_goesOn.cls ≠ "java/lang/invoke/VarHandle" ∧ (parseMethodDescriptor yX8_goesOn.desc).map (fun d => d.parameters.length) = some 2 := by decide +kernel
theorem hd_X8_hears : yX8_hears.cls ≠ "java/lang/invoke/MethodHandle" ∧ yX8_hears.cls ≠ "java/lang/invoke/VarHandle" ∧ (parseMethodDescriptor yX8_hears.desc).map (fun d => d.parameters.length) = some 3 := by decide +kernel
theorem hd_X8_image : yX8_image.cls ≠ "java/lang/invoke/MethodHandle" ∧ yX8_image.cls ≠ "java/lang/invoke/VarHandle" ∧ (parseMethodDescriptor yX8_image.desc).map (fun d => d.parameters.length) = some 0 := by decide +kernel
theorem hd_X8_init : yX8_init.cls ≠ "java/lang/invoke/MethodHandle" ∧ yX8_init.cls ≠ "java/lang/invoke/VarHandle" ∧ (parseMethodDescriptor yX8_init.desc).map (fun d => d.parameters.length) = some 0 := by decide +kernel
theorem hd_X8_isBelow : yX8_isBelow.cls ≠ "java/lang/invoke/MethodHandle" ∧ yX8_isBelow.cls ≠ "java/lang/invoke/VarHandle" ∧ (parseMethodDescriptor yX8_isBelow.desc).map (fun d => d.parameters.length) = some 2 := by decide +kernel
theorem hd_X8_isHouse : yX8_isHouse.cls ≠ "java/lang/invoke/MethodHandle" ∧ yX8_isHouse.cls ≠ "java/lang/invoke/VarHandle" ∧ (parseMethodDescriptor yX8_isHouse.desc).map (fun d => d.parameters.length) = some 1 := by decide +kernel
theorem hd_X8_judge : yX8_judge.cls ≠ "java/lang/invoke/MethodHandle" ∧ yX8_judge.cls ≠ "java/lang/invoke/VarHandle" ∧ (parseMethodDescriptor yX8_judge.desc).map (fun d => d.parameters.length) = some 1 := by decide +kernel
theorem hd_X8_keepAway : yX8_keepAway.cls ≠ "java/lang/invoke/MethodHandle" ∧ yX8_keepAway.cls ≠ "java/lang/invoke/VarHandle" ∧ (parseMethodDescriptor yX8_keepAway.desc).map (fun d => d.parameters.length) = some 1 := by decide +kernel
theorem hd_X8_left : yX8_left.cls ≠ "java/lang/invoke/MethodHandle" ∧ yX8_left.cls ≠ "java/lang/invoke/VarHandle" ∧ (parseMethodDescriptor yX8_left.desc).map (fun d => d.parameters.length) = some 0 := by decide +kernel
theorem hd_X8_may : yX8_may.cls ≠ "java/lang/invoke/MethodHandle" ∧ yX8_may.cls ≠ "java/lang/invoke/VarHandle" ∧ (parseMethodDescriptor yX8_may.desc).map (fun d => d.parameters.length) = some 1 := by decide +kernel
theorem hd_X8_most : yX8_most.cls ≠ "java/lang/invoke/MethodHandle" ∧ yX8_most.cls ≠ "java/lang/invoke/VarHandle" ∧ (parseMethodDescriptor yX8_most.desc).map (fun d => d.parameters.length) = some 2 := by decide +kernel
theorem hd_X8_one : yX8_one.cls ≠ "java/lang/invoke/MethodHandle" ∧ yX8_one.cls ≠ "java/lang/invoke/VarHandle" ∧ (parseMethodDescriptor yX8_one.desc).map (fun d => d.parameters.length) = some 2 := by decide +kernel
theorem hd_X8_pass : yX8_pass.cls ≠ "java/lang/invoke/MethodHandle" ∧ yX8_pass.cls ≠ "java/lang/invoke/VarHandle" ∧ (parseMethodDescriptor yX8_pass.desc).map (fun d => d.parameters.length) = some 0 := by decide +kernel
theorem hd_X8_people : yX8_people.cls ≠ "java/lang/invoke/MethodHandle" ∧ yX8_people.cls ≠ "java/lang/invoke/VarHandle" ∧ (parseMethodDescriptor yX8_people.desc).map (fun d => d.parameters.length) = some 4 := by decide +kernel
theorem hd_X8_person : yX8_person.cls ≠ "java/lang/invoke/MethodHandle" ∧ yX8_person.cls ≠ "java/lang/invoke/VarHandle" ∧ (parseMethodDescriptor yX8_person.desc).map (fun d => d.parameters.length) = some 2 := by decide +kernel
theorem hd_X8_put : yX8_put.cls ≠ "java/lang/invoke/MethodHandle" ∧ yX8_put.cls ≠ "java/lang/invoke/VarHandle" ∧ (parseMethodDescriptor yX8_put.desc).map (fun d => d.parameters.length) = some 3 := by decide +kernel
theorem hd_X8_send : yX8_send.cls ≠ "java/lang/invoke/MethodHandle" ∧ yX8_send.cls ≠ "java/lang/invoke/VarHandle" ∧ (parseMethodDescriptor yX8_send.desc).map (fun d => d.parameters.length) = some 2 := by decide +kernel
theorem hd_X8_set : yX8_set.cls ≠ "java/lang/invoke/MethodHandle" ∧ yX8_set.cls ≠ "java/lang/invoke/VarHandle" ∧ (parseMethodDescriptor yX8_set.desc).map (fun d => d.parameters.length) = some 3 := by decide +kernel
theorem hd_X8_sheet : yX8_sheet.cls ≠ "java/lang/invoke/MethodHandle" ∧ yX8_sheet.cls ≠ "java/lang/invoke/VarHandle" ∧ (parseMethodDescriptor yX8_sheet.desc).map (fun d => d.parameters.length) = some 3 := by decide +kernel
theorem hd_X8_spread : yX8_spread.cls ≠ "java/lang/invoke/MethodHandle" ∧ yX8_spread.cls ≠ "java/lang/invoke/VarHandle" ∧ (parseMethodDescriptor yX8_spread.desc).map (fun d => d.parameters.length) = some 2 := by decide +kernel
theorem hd_X8_story : yX8_story.cls ≠ "java/lang/invoke/MethodHandle" ∧ yX8_story.cls ≠ "java/lang/invoke/VarHandle" ∧ (parseMethodDescriptor yX8_story.desc).map (fun d => d.parameters.length) = some 3 := by decide +kernel
theorem hd_X8_stranger : yX8_stranger.cls ≠ "java/lang/invoke/MethodHandle" ∧ yX8_stranger.cls ≠ "java/lang/invoke/VarHandle" ∧ (parseMethodDescriptor yX8_stranger.desc).map (fun d => d.parameters.length) = some 3 := by decide +kernel
theorem hd_X8_taken : yX8_taken.cls ≠ "java/lang/invoke/MethodHandle" ∧ yX8_taken.cls ≠ "java/lang/invoke/VarHandle" ∧ (parseMethodDescriptor yX8_taken.desc).map (fun d => d.parameters.length) = some 2 := by decide +kernel
theorem hd_X8_tell : yX8_tell.cls ≠ "java/lang/invoke/MethodHandle" ∧ yX8_tell.cls ≠ "java/lang/invoke/VarHandle" ∧ (parseMethodDescriptor yX8_tell.desc).map (fun d => d.parameters.length) = some 2 := by decide +kernel
theorem hd_X8_text : yX8_text.cls ≠ "java/lang/invoke/MethodHandle" ∧ yX8_text.cls ≠ "java/lang/invoke/VarHandle" ∧ (parseMethodDescriptor yX8_text.desc).map (fun d => d.parameters.length) = some 0 := by decide +kernel
theorem hd_X8_told : yX8_told.cls ≠ "java/lang/invoke/MethodHandle" ∧ yX8_told.cls ≠ "java/lang/invoke/VarHandle" ∧ (parseMethodDescriptor yX8_told.desc).map (fun d => d.parameters.length) = some 3 := by decide +kernel
theorem hd_X8_twin : yX8_twin.cls ≠ "java/lang/invoke/MethodHandle" ∧ yX8_twin.cls ≠ "java/lang/invoke/VarHandle" ∧ (parseMethodDescriptor yX8_twin.desc).map (fun d => d.parameters.length) = some 2 := by decide +kernel
theorem hd_X8_worth : yX8_worth.cls ≠ "java/lang/invoke/MethodHandle" ∧ yX8_worth.cls ≠ "java/lang/invoke/VarHandle" ∧ (parseMethodDescriptor yX8_worth.desc).map (fun d => d.parameters.length) = some 2 := by decide +kernel
theorem hd_X9_added : yX9_added.cls ≠ "java/lang/invoke/MethodHandle" ∧ yX9_added.cls ≠ "java/lang/invoke/VarHandle" ∧ (parseMethodDescriptor yX9_added.desc).map (fun d => d.parameters.length) = some 0 := by decide +kernel
theorem hd_X9_allMay : yX9_allMay.cls ≠ "java/lang/invoke/MethodHandle" ∧ yX9_allMay.cls ≠ "java/lang/invoke/VarHandle" ∧ (parseMethodDescriptor yX9_allMay.desc).map (fun d => d.parameters.length) = some 1 := by decide +kernel
theorem hd_X9_anyMay : yX9_anyMay.cls ≠ "java/lang/invoke/MethodHandle" ∧ yX9_anyMay.cls ≠ "java/lang/invoke/VarHandle" ∧ (parseMethodDescriptor yX9_anyMay.desc).map (fun d => d.parameters.length) = some 1 := by decide +kernel
theorem hd_X9_atom : yX9_atom.cls ≠ "java/lang/invoke/MethodHandle" ∧ yX9_atom.cls ≠ "java/lang/invoke/VarHandle" ∧ (parseMethodDescriptor yX9_atom.desc).map (fun d => d.parameters.length) = some 0 := by decide +kernel
theorem hd_X9_back : yX9_back.cls ≠ "java/lang/invoke/MethodHandle" ∧ yX9_back.cls ≠ "java/lang/invoke/VarHandle" ∧ (parseMethodDescriptor yX9_back.desc).map (fun d => d.parameters.length) = some 0 := by decide +kernel
theorem hd_X9_best : yX9_best.cls ≠ "java/lang/invoke/MethodHandle" ∧ yX9_best.cls ≠ "java/lang/invoke/VarHandle" ∧ (parseMethodDescriptor yX9_best.desc).map (fun d => d.parameters.length) = some 1 := by decide +kernel
theorem hd_X9_bitsOf : yX9_bitsOf.cls ≠ "java/lang/invoke/MethodHandle" ∧ yX9_bitsOf.cls ≠ "java/lang/invoke/VarHandle" ∧ (parseMethodDescriptor yX9_bitsOf.desc).map (fun d => d.parameters.length) = some 1 := by decide +kernel
theorem hd_X9_both : yX9_both.cls ≠ "java/lang/invoke/MethodHandle" ∧ yX9_both.cls ≠ "java/lang/invoke/VarHandle" ∧ (parseMethodDescriptor yX9_both.desc).map (fun d => d.parameters.length) = some 0 := by decide +kernel
theorem hd_X9_by : yX9_by.cls ≠ "java/lang/invoke/MethodHandle" ∧ yX9_by.cls ≠ "java/lang/invoke/VarHandle" ∧ (parseMethodDescriptor yX9_by.desc).map (fun d => d.parameters.length) = some 2 := by decide +kernel
theorem hd_X9_byteAt : yX9_byteAt.cls ≠ "java/lang/invoke/MethodHandle" ∧ yX9_byteAt.cls ≠ "java/lang/invoke/VarHandle" ∧ (parseMethodDescriptor yX9_byteAt.desc).map (fun d => d.parameters.length) = some 1 := by decide +kernel
theorem hd_X9_canAll : yX9_canAll.cls ≠ "java/lang/invoke/MethodHandle" ∧ yX9_canAll.cls ≠ "java/lang/invoke/VarHandle" ∧ (parseMethodDescriptor yX9_canAll.desc).map (fun d => d.parameters.length) = some 2 := by decide +kernel
theorem hd_X9_cell : yX9_cell.cls ≠ "java/lang/invoke/MethodHandle" ∧ yX9_cell.cls ≠ "java/lang/invoke/VarHandle" ∧ (parseMethodDescriptor yX9_cell.desc).map (fun d => d.parameters.length) = some 3 := by decide +kernel
theorem hd_X9_copy : yX9_copy.cls ≠ "java/lang/invoke/MethodHandle" ∧ yX9_copy.cls ≠ "java/lang/invoke/VarHandle" ∧ (parseMethodDescriptor yX9_copy.desc).map (fun d => d.parameters.length) = some 5 := by decide +kernel
theorem hd_X9_count : yX9_count.cls ≠ "java/lang/invoke/MethodHandle" ∧ yX9_count.cls ≠ "java/lang/invoke/VarHandle" ∧ (parseMethodDescriptor yX9_count.desc).map (fun d => d.parameters.length) = some 1 := by decide +kernel
theorem hd_X9_counts : yX9_counts.cls ≠ "java/lang/invoke/MethodHandle" ∧ yX9_counts.cls ≠ "java/lang/invoke/VarHandle" ∧ (parseMethodDescriptor yX9_counts.desc).map (fun d => d.parameters.length) = some 2 := by decide +kernel
theorem hd_X9_digit : yX9_digit.cls ≠ "java/lang/invoke/MethodHandle" ∧ yX9_digit.cls ≠ "java/lang/invoke/VarHandle" ∧ (parseMethodDescriptor yX9_digit.desc).map (fun d => d.parameters.length) = some 3 := by decide +kernel
theorem hd_X9_drawn : yX9_drawn.cls ≠ "java/lang/invoke/MethodHandle" ∧ yX9_drawn.cls ≠ "java/lang/invoke/VarHandle" ∧ (parseMethodDescriptor yX9_drawn.desc).map (fun d => d.parameters.length) = some 2 := by decide +kernel
theorem hd_X9_either : yX9_either.cls ≠ "java/lang/invoke/MethodHandle" ∧ yX9_either.cls ≠ "java/lang/invoke/VarHandle" ∧ (parseMethodDescriptor yX9_either.desc).map (fun d => d.parameters.length) = some 0 := by decide +kernel
theorem hd_X9_fail : yX9_fail.cls ≠ "java/lang/invoke/MethodHandle" ∧ yX9_fail.cls ≠ "java/lang/invoke/VarHandle" ∧ (parseMethodDescriptor yX9_fail.desc).map (fun d => d.parameters.length) = some 0 := by decide +kernel
theorem hd_X9_feed : yX9_feed.cls ≠ "java/lang/invoke/MethodHandle" ∧ yX9_feed.cls ≠ "java/lang/invoke/VarHandle" ∧ (parseMethodDescriptor yX9_feed.desc).map (fun d => d.parameters.length) = some 1 := by decide +kernel
theorem hd_X9_force : yX9_force.cls ≠ "java/lang/invoke/MethodHandle" ∧ yX9_force.cls ≠ "java/lang/invoke/VarHandle" ∧ (parseMethodDescriptor yX9_force.desc).map (fun d => d.parameters.length) = some 1 := by decide +kernel
theorem hd_X9_goesOn : yX9_goesOn.cls ≠ "java/lang/invoke/MethodHandle" ∧ yX9_goesOn.cls ≠ "java/lang/invoke/VarHandle" ∧ (parseMethodDescriptor yX9_goesOn.desc).map (fun d => d.parameters.length) = some 2 := by decide +kernel
theorem hd_X9_hears : yX9_hears.cls ≠ "java/lang/invoke/MethodHandle" ∧ yX9_hears.cls ≠ "java/lang/invoke/VarHandle" ∧ (parseMethodDescriptor yX9_hears.desc).map (fun d => d.parameters.length) = some 3 := by decide +kernel
theorem hd_X9_housesWith : yX9_housesWith.cls ≠ "java/lang/invoke/MethodHandle" ∧ yX9_housesWith.cls ≠ "java/lang/invoke/VarHandle" ∧ (parseMethodDescriptor yX9_housesWith.desc).map (fun d => d.parameters.length) = some 2 := by decide +kernel
theorem hd_X9_image : yX9_image.cls ≠ "java/lang/invoke/MethodHandle" ∧ yX9_image.cls ≠ "java/lang/invoke/VarHandle" ∧ (parseMethodDescriptor yX9_image.desc).map (fun d => d.parameters.length) = some 0 := by decide +kernel
theorem hd_X9_in : yX9_in.cls ≠ "java/lang/invoke/MethodHandle" ∧ yX9_in.cls ≠ "java/lang/invoke/VarHandle" ∧ (parseMethodDescriptor yX9_in.desc).map (fun d => d.parameters.length) = some 3 := by decide +kernel
theorem hd_X9_init : yX9_init.cls ≠ "java/lang/invoke/MethodHandle" ∧ yX9_init.cls ≠ "java/lang/invoke/VarHandle" ∧ (parseMethodDescriptor yX9_init.desc).map (fun d => d.parameters.length) = some 0 := by decide +kernel
theorem hd_X9_isHouse : yX9_isHouse.cls ≠ "java/lang/invoke/MethodHandle" ∧ yX9_isHouse.cls ≠ "java/lang/invoke/VarHandle" ∧ (parseMethodDescriptor yX9_isHouse.desc).map (fun d => d.parameters.length) = some 1 := by decide +kernel
theorem hd_X9_isLetter : yX9_isLetter.cls ≠ "java/lang/invoke/MethodHandle" ∧ yX9_isLetter.cls ≠ "java/lang/invoke/VarHandle" ∧ (parseMethodDescriptor yX9_isLetter.desc).map (fun d => d.parameters.length) = some 2 := by decide +kernel
theorem hd_X9_isPerson : yX9_isPerson.cls ≠ "java/lang/invoke/MethodHandle" ∧ yX9_isPerson.cls ≠ "java/lang/invoke/VarHandle" ∧ (parseMethodDescriptor yX9_isPerson.desc).map (fun d => d.parameters.length) = some 1 := by decide +kernel
theorem hd_X9_isSheet : yX9_isSheet.cls ≠ "java/lang/invoke/MethodHandle" ∧ yX9_isSheet.cls ≠ "java/lang/invoke/VarHandle" ∧ (parseMethodDescriptor yX9_isSheet.desc).map (fun d => d.parameters.length) = some 1 := by decide +kernel
theorem hd_X9_isSign : yX9_isSign.cls ≠ "java/lang/invoke/MethodHandle" ∧ yX9_isSign.cls ≠ "java/lang/invoke/VarHandle" ∧ (parseMethodDescriptor yX9_isSign.desc).map (fun d => d.parameters.length) = some 1 := by decide +kernel
theorem hd_X9_isStory : yX9_isStory.cls ≠ "java/lang/invoke/MethodHandle" ∧ yX9_isStory.cls ≠ "java/lang/invoke/VarHandle" ∧ (parseMethodDescriptor yX9_isStory.desc).map (fun d => d.parameters.length) = some 1 := by decide +kernel
theorem hd_X9_isTired : yX9_isTired.cls ≠ "java/lang/invoke/MethodHandle" ∧ yX9_isTired.cls ≠ "java/lang/invoke/VarHandle" ∧ (parseMethodDescriptor yX9_isTired.desc).map (fun d => d.parameters.length) = some 3 := by decide +kernel
theorem hd_X9_isWord : yX9_isWord.cls ≠ "java/lang/invoke/MethodHandle" ∧ yX9_isWord.cls ≠ "java/lang/invoke/VarHandle" ∧ (parseMethodDescriptor yX9_isWord.desc).map (fun d => d.parameters.length) = some 8 := by decide +kernel
theorem hd_X9_judge : yX9_judge.cls ≠ "java/lang/invoke/MethodHandle" ∧ yX9_judge.cls ≠ "java/lang/invoke/VarHandle" ∧ (parseMethodDescriptor yX9_judge.desc).map (fun d => d.parameters.length) = some 1 := by decide +kernel
theorem hd_X9_keepAway : yX9_keepAway.cls ≠ "java/lang/invoke/MethodHandle" ∧ yX9_keepAway.cls ≠ "java/lang/invoke/VarHandle" ∧ (parseMethodDescriptor yX9_keepAway.desc).map (fun d => d.parameters.length) = some 1 := by decide +kernel
theorem hd_X9_knowers : yX9_knowers.cls ≠ "java/lang/invoke/MethodHandle" ∧ yX9_knowers.cls ≠ "java/lang/invoke/VarHandle" ∧ (parseMethodDescriptor yX9_knowers.desc).map (fun d => d.parameters.length) = some 1 := by decide +kernel
theorem hd_X9_known : yX9_known.cls ≠ "java/lang/invoke/MethodHandle" ∧ yX9_known.cls ≠ "java/lang/invoke/VarHandle" ∧ (parseMethodDescriptor yX9_known.desc).map (fun d => d.parameters.length) = some 1 := by decide +kernel
theorem hd_X9_laysAside : yX9_laysAside.cls ≠ "java/lang/invoke/MethodHandle" ∧ yX9_laysAside.cls ≠ "java/lang/invoke/VarHandle" ∧ (parseMethodDescriptor yX9_laysAside.desc).map (fun d => d.parameters.length) = some 0 := by decide +kernel
theorem hd_X9_laysBack : yX9_laysBack.cls ≠ "java/lang/invoke/MethodHandle" ∧ yX9_laysBack.cls ≠ "java/lang/invoke/VarHandle" ∧ (parseMethodDescriptor yX9_laysBack.desc).map (fun d => d.parameters.length) = some 0 := by decide +kernel
theorem hd_X9_left : yX9_left.cls ≠ "java/lang/invoke/MethodHandle" ∧ yX9_left.cls ≠ "java/lang/invoke/VarHandle" ∧ (parseMethodDescriptor yX9_left.desc).map (fun d => d.parameters.length) = some 0 := by decide +kernel
theorem hd_X9_may : yX9_may.cls ≠ "java/lang/invoke/MethodHandle" ∧ yX9_may.cls ≠ "java/lang/invoke/VarHandle" ∧ (parseMethodDescriptor yX9_may.desc).map (fun d => d.parameters.length) = some 1 := by decide +kernel
theorem hd_X9_mayTell : yX9_mayTell.cls ≠ "java/lang/invoke/MethodHandle" ∧ yX9_mayTell.cls ≠ "java/lang/invoke/VarHandle" ∧ (parseMethodDescriptor yX9_mayTell.desc).map (fun d => d.parameters.length) = some 3 := by decide +kernel
theorem hd_X9_most : yX9_most.cls ≠ "java/lang/invoke/MethodHandle" ∧ yX9_most.cls ≠ "java/lang/invoke/VarHandle" ∧ (parseMethodDescriptor yX9_most.desc).map (fun d => d.parameters.length) = some 2 := by decide +kernel
theorem hd_X9_name : yX9_name.cls ≠ "java/lang/invoke/MethodHandle" ∧ yX9_name.cls ≠ "java/lang/invoke/VarHandle" ∧ (parseMethodDescriptor yX9_name.desc).map (fun d => d.parameters.length) = some 0 := by decide +kernel
theorem hd_X9_next : yX9_next.cls ≠ "java/lang/invoke/MethodHandle" ∧ yX9_next.cls ≠ "java/lang/invoke/VarHandle" ∧ (parseMethodDescriptor yX9_next.desc).map (fun d => d.parameters.length) = some 0 := by decide +kernel
theorem hd_X9_not : yX9_not.cls ≠ "java/lang/invoke/MethodHandle" ∧ yX9_not.cls ≠ "java/lang/invoke/VarHandle" ∧ (parseMethodDescriptor yX9_not.desc).map (fun d => d.parameters.length) = some 0 := by decide +kernel
theorem hd_X9_one : yX9_one.cls ≠ "java/lang/invoke/MethodHandle" ∧ yX9_one.cls ≠ "java/lang/invoke/VarHandle" ∧ (parseMethodDescriptor yX9_one.desc).map (fun d => d.parameters.length) = some 2 := by decide +kernel
theorem hd_X9_opens : yX9_opens.cls ≠ "java/lang/invoke/MethodHandle" ∧ yX9_opens.cls ≠ "java/lang/invoke/VarHandle" ∧ (parseMethodDescriptor yX9_opens.desc).map (fun d => d.parameters.length) = some 0 := by decide +kernel
theorem hd_X9_over : yX9_over.cls ≠ "java/lang/invoke/MethodHandle" ∧ yX9_over.cls ≠ "java/lang/invoke/VarHandle" ∧ (parseMethodDescriptor yX9_over.desc).map (fun d => d.parameters.length) = some 1 := by decide +kernel
theorem hd_X9_part : yX9_part.cls ≠ "java/lang/invoke/MethodHandle" ∧ yX9_part.cls ≠ "java/lang/invoke/VarHandle" ∧ (parseMethodDescriptor yX9_part.desc).map (fun d => d.parameters.length) = some 1 := by decide +kernel
theorem hd_X9_parts : yX9_parts.cls ≠ "java/lang/invoke/MethodHandle" ∧ yX9_parts.cls ≠ "java/lang/invoke/VarHandle" ∧ (parseMethodDescriptor yX9_parts.desc).map (fun d => d.parameters.length) = some 1 := by decide +kernel
theorem hd_X9_pass : yX9_pass.cls ≠ "java/lang/invoke/MethodHandle" ∧ yX9_pass.cls ≠ "java/lang/invoke/VarHandle" ∧ (parseMethodDescriptor yX9_pass.desc).map (fun d => d.parameters.length) = some 0 := by decide +kernel
theorem hd_X9_people : yX9_people.cls ≠ "java/lang/invoke/MethodHandle" ∧ yX9_people.cls ≠ "java/lang/invoke/VarHandle" ∧ (parseMethodDescriptor yX9_people.desc).map (fun d => d.parameters.length) = some 4 := by decide +kernel
theorem hd_X9_person : yX9_person.cls ≠ "java/lang/invoke/MethodHandle" ∧ yX9_person.cls ≠ "java/lang/invoke/VarHandle" ∧ (parseMethodDescriptor yX9_person.desc).map (fun d => d.parameters.length) = some 2 := by decide +kernel
theorem hd_X9_read : yX9_read.cls ≠ "java/lang/invoke/MethodHandle" ∧ yX9_read.cls ≠ "java/lang/invoke/VarHandle" ∧ (parseMethodDescriptor yX9_read.desc).map (fun d => d.parameters.length) = some 2 := by decide +kernel
theorem hd_X9_says : yX9_says.cls ≠ "java/lang/invoke/MethodHandle" ∧ yX9_says.cls ≠ "java/lang/invoke/VarHandle" ∧ (parseMethodDescriptor yX9_says.desc).map (fun d => d.parameters.length) = some 4 := by decide +kernel
theorem hd_X9_send : yX9_send.cls ≠ "java/lang/invoke/MethodHandle" ∧ yX9_send.cls ≠ "java/lang/invoke/VarHandle" ∧ (parseMethodDescriptor yX9_send.desc).map (fun d => d.parameters.length) = some 2 := by decide +kernel
theorem hd_X9_set : yX9_set.cls ≠ "java/lang/invoke/MethodHandle" ∧ yX9_set.cls ≠ "java/lang/invoke/VarHandle" ∧ (parseMethodDescriptor yX9_set.desc).map (fun d => d.parameters.length) = some 3 := by decide +kernel
theorem hd_X9_sheet : yX9_sheet.cls ≠ "java/lang/invoke/MethodHandle" ∧ yX9_sheet.cls ≠ "java/lang/invoke/VarHandle" ∧ (parseMethodDescriptor yX9_sheet.desc).map (fun d => d.parameters.length) = some 3 := by decide +kernel
theorem hd_X9_sitting : yX9_sitting.cls ≠ "java/lang/invoke/MethodHandle" ∧ yX9_sitting.cls ≠ "java/lang/invoke/VarHandle" ∧ (parseMethodDescriptor yX9_sitting.desc).map (fun d => d.parameters.length) = some 1 := by decide +kernel
theorem hd_X9_spell : yX9_spell.cls ≠ "java/lang/invoke/MethodHandle" ∧ yX9_spell.cls ≠ "java/lang/invoke/VarHandle" ∧ (parseMethodDescriptor yX9_spell.desc).map (fun d => d.parameters.length) = some 9 := by decide +kernel
theorem hd_X9_spread : yX9_spread.cls ≠ "java/lang/invoke/MethodHandle" ∧ yX9_spread.cls ≠ "java/lang/invoke/VarHandle" ∧ (parseMethodDescriptor yX9_spread.desc).map (fun d => d.parameters.length) = some 2 := by decide +kernel
theorem hd_X9_stays : yX9_stays.cls ≠ "java/lang/invoke/MethodHandle" ∧ yX9_stays.cls ≠ "java/lang/invoke/VarHandle" ∧ (parseMethodDescriptor yX9_stays.desc).map (fun d => d.parameters.length) = some 1 := by decide +kernel
theorem hd_X9_story : yX9_story.cls ≠ "java/lang/invoke/MethodHandle" ∧ yX9_story.cls ≠ "java/lang/invoke/VarHandle" ∧ (parseMethodDescriptor yX9_story.desc).map (fun d => d.parameters.length) = some 3 := by decide +kernel
theorem hd_X9_stranger : yX9_stranger.cls ≠ "java/lang/invoke/MethodHandle" ∧ yX9_stranger.cls ≠ "java/lang/invoke/VarHandle" ∧ (parseMethodDescriptor yX9_stranger.desc).map (fun d => d.parameters.length) = some 3 := by decide +kernel
theorem hd_X9_taken : yX9_taken.cls ≠ "java/lang/invoke/MethodHandle" ∧ yX9_taken.cls ≠ "java/lang/invoke/VarHandle" ∧ (parseMethodDescriptor yX9_taken.desc).map (fun d => d.parameters.length) = some 2 := by decide +kernel
theorem hd_X9_tell : yX9_tell.cls ≠ "java/lang/invoke/MethodHandle" ∧ yX9_tell.cls ≠ "java/lang/invoke/VarHandle" ∧ (parseMethodDescriptor yX9_tell.desc).map (fun d => d.parameters.length) = some 2 := by decide +kernel
theorem hd_X9_tellIn : yX9_tellIn.cls ≠ "java/lang/invoke/MethodHandle" ∧ yX9_tellIn.cls ≠ "java/lang/invoke/VarHandle" ∧ (parseMethodDescriptor yX9_tellIn.desc).map (fun d => d.parameters.length) = some 3 := by decide +kernel
theorem hd_X9_teller : yX9_teller.cls ≠ "java/lang/invoke/MethodHandle" ∧ yX9_teller.cls ≠ "java/lang/invoke/VarHandle" ∧ (parseMethodDescriptor yX9_teller.desc).map (fun d => d.parameters.length) = some 2 := by decide +kernel
theorem hd_X9_term : yX9_term.cls ≠ "java/lang/invoke/MethodHandle" ∧ yX9_term.cls ≠ "java/lang/invoke/VarHandle" ∧ (parseMethodDescriptor yX9_term.desc).map (fun d => d.parameters.length) = some 0 := by decide +kernel
theorem hd_X9_text : yX9_text.cls ≠ "java/lang/invoke/MethodHandle" ∧ yX9_text.cls ≠ "java/lang/invoke/VarHandle" ∧ (parseMethodDescriptor yX9_text.desc).map (fun d => d.parameters.length) = some 0 := by decide +kernel
theorem hd_X9_told : yX9_told.cls ≠ "java/lang/invoke/MethodHandle" ∧ yX9_told.cls ≠ "java/lang/invoke/VarHandle" ∧ (parseMethodDescriptor yX9_told.desc).map (fun d => d.parameters.length) = some 3 := by decide +kernel
theorem hd_X9_twin : yX9_twin.cls ≠ "java/lang/invoke/MethodHandle" ∧ yX9_twin.cls ≠ "java/lang/invoke/VarHandle" ∧ (parseMethodDescriptor yX9_twin.desc).map (fun d => d.parameters.length) = some 2 := by decide +kernel
theorem hd_X9_within : yX9_within.cls ≠ "java/lang/invoke/MethodHandle" ∧ yX9_within.cls ≠ "java/lang/invoke/VarHandle" ∧ (parseMethodDescriptor yX9_within.desc).map (fun d => d.parameters.length) = some 3 := by decide +kernel
theorem hd_X9_worth : yX9_worth.cls ≠ "java/lang/invoke/MethodHandle" ∧ yX9_worth.cls ≠ "java/lang/invoke/VarHandle" ∧ (parseMethodDescriptor yX9_worth.desc).map (fun d => d.parameters.length) = some 2 := by decide +kernel
theorem hd_X9_worthBy : yX9_worthBy.cls ≠ "java/lang/invoke/MethodHandle" ∧ yX9_worthBy.cls ≠ "java/lang/invoke/VarHandle" ∧ (parseMethodDescriptor yX9_worthBy.desc).map (fun d => d.parameters.length) = some 3 := by decide +kernel
end
section
def fNt_isBelow (x0 : Int32) (x1 : Int32) (g : nt_T) : Option (Int32) :=
  (if x0 < 0 then
    (some (0 : Int32))
  else
    ((if x1 ≤ x0 then
    (some (0 : Int32))
  else
    (some (1 : Int32)))))
set_option maxRecDepth 100000 in
set_option maxHeartbeats 4000000 in
theorem cNt_isBelow {l : Launch} {w : nt_w} (hw : nt_isX w) {x0 : Int32} {x1 : Int32} {g : nt_T} {r : Int32} (hf : fNt_isBelow x0 x1 g = some r) : nt_Mi l w yX8_isBelow cX8_isBelow 2 (some .boolean) 1 [.int x0, .int x1] g r g := by
  refine nt_Mi_of (by decide) (Nat.le_of_ble_eq_true rfl) (fun p e s m args below meth c A X => ?_)
  have X : nt_X cX8_isBelow 2 RX8 (some .boolean) w A p s m args meth c := X
  have hg : g = g := rfl
  have h : nt_R (fNt_isBelow x0 x1 g) (fun z => z = r) := ⟨_, hf, rfl⟩
  unfold fNt_isBelow at h
  show nt_G p l e (nt_rm 1) s m args below meth c w A 0 0 (nt_Qi w A below args s r g) 2 0 [(0, .int x0), (1, .int x1)] [] g
  refine nt_iload_n X dX8_isBelow_0 rfl 0 rfl ?_
  obtain ⟨ht, hf⟩ := nt_R_if h
  refine nt_if_lt X 13 dX8_isBelow_1 (by decide) (fun q1 => ?_) (fun q1 => ?_)
  · have h := ht q1
    refine nt_iconst X dX8_isBelow_13 nt_ci_0 ?_
    have h := nt_R_some h
    exact nt_zret X rfl dX8_isBelow_14 (by rw [hg, h])
  · have h := hf q1
    refine nt_iload_n X dX8_isBelow_4 rfl 0 rfl ?_
    refine nt_iload_n X dX8_isBelow_5 rfl 1 rfl ?_
    obtain ⟨ht, hf⟩ := nt_R_if h
    refine nt_icmp_ge X 13 dX8_isBelow_6 (by decide) (fun q2 => ?_) (fun q2 => ?_)
    · have h := ht q2
      refine nt_iconst X dX8_isBelow_13 nt_ci_0 ?_
      have h := nt_R_some h
      exact nt_zret X rfl dX8_isBelow_14 (by rw [hg, h])
    · have h := hf q2
      refine nt_iconst X dX8_isBelow_9 nt_ci_1 ?_
      refine nt_goto X 14 dX8_isBelow_10 (by decide) ?_
      have h := nt_R_some h
      exact nt_zret X rfl dX8_isBelow_14 (by rw [hg, h])
def fSh_has (x1 : Int32) (g : nt_T) : Option (Int32) :=
  nt_b1 (fNt_isBelow x1 (g 1 4) g) fun r1 => nt_gd (decide (narrow .boolean (.int r1) = .int r1)) <| some r1
set_option maxRecDepth 100000 in
set_option maxHeartbeats 4000000 in
theorem cSh_has {l : Launch} {w : nt_w} (hw : nt_isX w) {x1 : Int32} {g : nt_T} {r : Int32} (hf : fSh_has x1 g = some r) : nt_Mi l w yX5_has cX5_has 2 (some .boolean) 3 [.ref (nt_a w 1), .int x1] g r g := by
  refine nt_Mi_of (by decide) (Nat.le_of_ble_eq_true rfl) (fun p e s m args below meth c A X => ?_)
  have X : nt_X cX5_has 2 RX5 (some .boolean) w A p s m args meth c := X
  have hg : g = g := rfl
  have h : nt_R (fSh_has x1 g) (fun z => z = r) := ⟨_, hf, rfl⟩
  unfold fSh_has at h
  show nt_G p l e (nt_rm 3) s m args below meth c w A 0 0 (nt_Qi w A below args s r g) 2 0 [(0, .ref (nt_a w 1)), (1, .int x1)] [] g
  refine nt_iload_n X dX5_has_0 rfl 1 rfl ?_
  refine nt_aload_n X dX5_has_1 rfl 0 rfl ?_
  refine nt_get X 1 inX5 (nt_lX hw (Nat.le_of_ble_eq_true rfl)) (nt_e1 hw) rfl (j := 4) (by decide) wd_35 (v := .int (g 1 4)) rfl dX5_has_2 ?_
  obtain ⟨r1, er1, h⟩ := nt_R_b1 h
  refine nt_cSNi X (As := [.int x1, .int (g 1 4)]) (cNt_isBelow hw er1) wd_336 nt_nm14 wd_335 wd_1 hd_X8_isBelow ⟨Nat.le_of_ble_eq_true rfl, Nat.le_of_ble_eq_true rfl⟩ ⟨Nat.le_refl 0, Nat.le_refl 0⟩ (Nat.le_of_ble_eq_true rfl) rfl dX5_has_5 ?_
  obtain ⟨q2, h⟩ := nt_R_gd h
  have h := nt_R_some h
  exact nt_zret X (of_decide_eq_true q2) dX5_has_8 (by rw [hg, h])
def bSh_withTwins_4 (x1 : Int32) (g : nt_T) (x2 : Int32) (x3 : Int32) : Option ((Int32 × Int32) ⊕ ((Int32))) :=
  (if (g 1 4) ≤ x3 then
    (some (.inr x2))
  else
    ((if x1 = 0 then
    (some (.inr x2))
  else
    ((if ((x1 >>> (x3 &&& 31)) &&& (1 : Int32)) = (1 : Int32) then
    (nt_gd (nt_in x3 8) <| (if (g 5 (Int32.toNatClampNeg x3)) = (-1 : Int32) then
    (nt_lt (x3 + (1 : Int32)) fun v7 => some (.inl (x2, v7)))
  else
    (nt_gd (nt_in x3 8) <| nt_lt (x2 ||| ((1 : Int32) <<< ((g 5 (Int32.toNatClampNeg x3)) &&& 31))) fun v9 => nt_lt (x3 + (1 : Int32)) fun v10 => some (.inl (v9, v10)))))
  else
    (nt_lt (x3 + (1 : Int32)) fun v4 => some (.inl (x2, v4))))))))
set_option maxRecDepth 100000 in
set_option maxHeartbeats 4000000 in
theorem tbSh_withTwins_4 {p : Program} {l : Launch} {e : Env} {s : State} {m : MethodId} {args : Array Value} {below : List Frame} {meth : Method} {c : Code} {w : nt_w} {A : Nat → Prop} (hw : nt_isX w) {Q : State → Prop} (X : nt_X cX5_withTwins 4 RX5 (some .int) w A p s m args meth c) (x1 : Int32) (g : nt_T)  {Qx : ((Int32)) → Prop} (hE0 : ∀ (y2 : Int32), Qx y2 → nt_G p l e (nt_rm 1) s m args below meth c w A 0 0 Q 4 52 [(0, .ref (nt_a w 1)), (1, .int x1), (2, .int y2)] [] g) : ∀ (n : Nat) (x2 : Int32) (x3 : Int32), nt_R (nt_it (fun z => bSh_withTwins_4 x1 g z.1 z.2) n (x2, x3)) Qx → nt_G p l e (nt_rm 1) s m args below meth c w A 0 0 Q 4 4 [(0, .ref (nt_a w 1)), (1, .int x1), (2, .int x2), (3, .int x3)] [] g := by
  intro n
  induction n with
  | zero =>
    intro x2 x3 h
    exact nt_R_none h
  | succ n ih =>
    intro x2 x3 h
    have h : nt_R (bSh_withTwins_4 x1 g x2 x3) (nt_Qz (fun z => bSh_withTwins_4 x1 g z.1 z.2) n Qx) := nt_R_it h
    have hI : ∀ (y2 : Int32) (y3 : Int32), nt_Qz (fun z => bSh_withTwins_4 x1 g z.1 z.2) n Qx (.inl (y2, y3)) → nt_G p l e (nt_rm 1) s m args below meth c w A 0 0 Q 4 4 [(0, .ref (nt_a w 1)), (1, .int x1), (2, .int y2), (3, .int y3)] [] g := fun y2 y3 q => ih y2 y3 q
    have hE0 : ∀ (y2 : Int32), nt_Qz (fun z => bSh_withTwins_4 x1 g z.1 z.2) n Qx (.inr y2) → nt_G p l e (nt_rm 1) s m args below meth c w A 0 0 Q 4 52 [(0, .ref (nt_a w 1)), (1, .int x1), (2, .int y2)] [] g := hE0
    generalize nt_Qz (fun z => bSh_withTwins_4 x1 g z.1 z.2) n Qx = Qz at h hI hE0
    unfold bSh_withTwins_4 at h
    refine nt_iload_n X dX5_withTwins_4 rfl 3 rfl ?_
    refine nt_aload_n X dX5_withTwins_5 rfl 0 rfl ?_
    refine nt_get X 1 inX5 (nt_lX hw (Nat.le_of_ble_eq_true rfl)) (nt_e1 hw) rfl (j := 4) (by decide) wd_35 (v := .int (g 1 4)) rfl dX5_withTwins_6 ?_
    obtain ⟨ht, hf⟩ := nt_R_if h
    refine nt_icmp_ge X 52 dX5_withTwins_9 (by decide) (fun q1 => ?_) (fun q1 => ?_)
    · have h := ht q1
      refine nt_sub [0, 1, 2] rfl ?_
      have h := nt_R_some h
      exact hE0 x2 h
    · have h := hf q1
      refine nt_iload_n X dX5_withTwins_12 rfl 1 rfl ?_
      obtain ⟨ht, hf⟩ := nt_R_if h
      refine nt_if_eq X 52 dX5_withTwins_13 (by decide) (fun q2 => ?_) (fun q2 => ?_)
      · have h := ht q2
        refine nt_sub [0, 1, 2] rfl ?_
        have h := nt_R_some h
        exact hE0 x2 h
      · have h := hf q2
        refine nt_iload_n X dX5_withTwins_16 rfl 1 rfl ?_
        refine nt_iload_n X dX5_withTwins_17 rfl 3 rfl ?_
        refine nt_ishr X dX5_withTwins_18 ?_
        refine nt_iconst X dX5_withTwins_19 nt_ci_1 ?_
        refine nt_iand X dX5_withTwins_20 ?_
        refine nt_iconst X dX5_withTwins_21 nt_ci_1 ?_
        obtain ⟨ht, hf⟩ := nt_R_if h
        refine nt_icmp_ne X 46 dX5_withTwins_22 (by decide) (fun q3 => ?_) (fun q3 => ?_)
        · have h := hf q3
          obtain ⟨v4, ev4, h⟩ := nt_R_lt h
          refine nt_iinc X v4 [(3, .int v4), (0, .ref (nt_a w 1)), (1, .int x1), (2, .int x2)] dX5_withTwins_46 3 rfl (by rw [nt_ci_1]; exact ev4) (by decide) rfl ?_
          refine nt_goto X 4 dX5_withTwins_49 (by decide) ?_
          refine nt_sub [1, 2, 3, 0] rfl ?_
          have h := nt_R_some h
          exact hI x2 v4 h
        · have h := ht q3
          refine nt_aload_n X dX5_withTwins_25 rfl 0 rfl ?_
          refine nt_get X 1 inX5 (nt_lX hw (Nat.le_of_ble_eq_true rfl)) (nt_e1 hw) rfl (j := 3) (by decide) wd_34 (v := .ref (nt_a w 5)) rfl dX5_withTwins_26 ?_
          refine nt_iload_n X dX5_withTwins_29 rfl 3 rfl ?_
          obtain ⟨q5, h⟩ := nt_R_gd h
          refine nt_iald X 5 0 (nt_lX hw (Nat.le_of_ble_eq_true rfl)) (nt_e5 hw) (nt_tX hw) q5 dX5_withTwins_30 ?_
          refine nt_iconst X dX5_withTwins_31 nt_ci_m1 ?_
          obtain ⟨ht, hf⟩ := nt_R_if h
          refine nt_icmp_eq X 46 dX5_withTwins_32 (by decide) (fun q6 => ?_) (fun q6 => ?_)
          · have h := ht q6
            obtain ⟨v7, ev7, h⟩ := nt_R_lt h
            refine nt_iinc X v7 [(3, .int v7), (0, .ref (nt_a w 1)), (1, .int x1), (2, .int x2)] dX5_withTwins_46 3 rfl (by rw [nt_ci_1]; exact ev7) (by decide) rfl ?_
            refine nt_goto X 4 dX5_withTwins_49 (by decide) ?_
            refine nt_sub [1, 2, 3, 0] rfl ?_
            have h := nt_R_some h
            exact hI x2 v7 h
          · have h := hf q6
            refine nt_iload_n X dX5_withTwins_35 rfl 2 rfl ?_
            refine nt_iconst X dX5_withTwins_36 nt_ci_1 ?_
            refine nt_aload_n X dX5_withTwins_37 rfl 0 rfl ?_
            refine nt_get X 1 inX5 (nt_lX hw (Nat.le_of_ble_eq_true rfl)) (nt_e1 hw) rfl (j := 3) (by decide) wd_34 (v := .ref (nt_a w 5)) rfl dX5_withTwins_38 ?_
            refine nt_iload_n X dX5_withTwins_41 rfl 3 rfl ?_
            obtain ⟨q8, h⟩ := nt_R_gd h
            refine nt_iald X 5 0 (nt_lX hw (Nat.le_of_ble_eq_true rfl)) (nt_e5 hw) (nt_tX hw) q8 dX5_withTwins_42 ?_
            refine nt_ishl X dX5_withTwins_43 ?_
            refine nt_ior X dX5_withTwins_44 ?_
            obtain ⟨v9, ev9, h⟩ := nt_R_lt h
            refine nt_topi ev9 ?_
            refine nt_istore_n X [(2, .int v9), (0, .ref (nt_a w 1)), (1, .int x1), (3, .int x3)] dX5_withTwins_45 rfl (by decide) rfl ?_
            obtain ⟨v10, ev10, h⟩ := nt_R_lt h
            refine nt_iinc X v10 [(3, .int v10), (2, .int v9), (0, .ref (nt_a w 1)), (1, .int x1)] dX5_withTwins_46 3 rfl (by rw [nt_ci_1]; exact ev10) (by decide) rfl ?_
            refine nt_goto X 4 dX5_withTwins_49 (by decide) ?_
            refine nt_sub [2, 3, 1, 0] rfl ?_
            have h := nt_R_some h
            exact hI v9 v10 h
def fSh_withTwins (x1 : Int32) (g : nt_T) : Option (Int32) :=
  (nt_b1 (nt_it (fun z => bSh_withTwins_4 x1 g z.1 z.2) nt_fu (x1, (0 : Int32))) fun v11 => some v11)
set_option maxRecDepth 100000 in
set_option maxHeartbeats 4000000 in
theorem cSh_withTwins {l : Launch} {w : nt_w} (hw : nt_isX w) {x1 : Int32} {g : nt_T} {r : Int32} (hf : fSh_withTwins x1 g = some r) : nt_Mi l w yX5_withTwins cX5_withTwins 4 (some .int) 1 [.ref (nt_a w 1), .int x1] g r g := by
  refine nt_Mi_of (by decide) (Nat.le_of_ble_eq_true rfl) (fun p e s m args below meth c A X => ?_)
  have X : nt_X cX5_withTwins 4 RX5 (some .int) w A p s m args meth c := X
  have hg : g = g := rfl
  have h : nt_R (fSh_withTwins x1 g) (fun z => z = r) := ⟨_, hf, rfl⟩
  unfold fSh_withTwins at h
  show nt_G p l e (nt_rm 1) s m args below meth c w A 0 0 (nt_Qi w A below args s r g) 4 0 [(0, .ref (nt_a w 1)), (1, .int x1)] [] g
  refine nt_iload_n X dX5_withTwins_0 rfl 1 rfl ?_
  refine nt_istore_n X [(2, .int x1), (0, .ref (nt_a w 1)), (1, .int x1)] dX5_withTwins_1 rfl (by decide) rfl ?_
  refine nt_iconst X dX5_withTwins_2 nt_ci_0 ?_
  refine nt_istore_n X [(3, .int (0 : Int32)), (2, .int x1), (0, .ref (nt_a w 1)), (1, .int x1)] dX5_withTwins_3 rfl (by decide) rfl ?_
  obtain ⟨z12, hz12, h⟩ := nt_R_b1 h
  refine nt_sub [2, 3, 1, 0] rfl ?_
  refine tbSh_withTwins_4 hw X x1 g (Qx := fun z => z = z12) (fun v11 hq => ?_) nt_fu x1 (0 : Int32) ⟨_, hz12, rfl⟩
  subst hq
  refine nt_iload_n X dX5_withTwins_52 rfl 2 rfl ?_
  have h := nt_R_some h
  exact nt_iret X dX5_withTwins_53 (by rw [hg, h])
def fPp_knows (b : Nat) (x1 : Int32) (g : nt_T) : Option (Int32) :=
  nt_gd (nt_in x1 9) <| nt_b1 (fSh_withTwins (g (b + 4) (Int32.toNatClampNeg x1)) g) fun r2 => some r2
set_option maxRecDepth 100000 in
set_option maxHeartbeats 4000000 in
theorem cPp_knows {l : Launch} {w : nt_w} (hw : nt_isX w) {b : Nat} (hb : nt_isP b) {x1 : Int32} {g : nt_T} {r : Int32} (hf : fPp_knows b x1 g = some r) : nt_Mi l w yX0_knows cX0_knows 2 (some .int) 3 [.ref (nt_a w b), .int x1] g r g := by
  refine nt_Mi_of (by decide) (Nat.le_of_ble_eq_true rfl) (fun p e s m args below meth c A X => ?_)
  have X : nt_X cX0_knows 2 RX0 (some .int) w A p s m args meth c := X
  have hg : g = g := rfl
  have h : nt_R (fPp_knows b x1 g) (fun z => z = r) := ⟨_, hf, rfl⟩
  unfold fPp_knows at h
  show nt_G p l e (nt_rm 3) s m args below meth c w A 0 0 (nt_Qi w A below args s r g) 2 0 [(0, .ref (nt_a w b)), (1, .int x1)] [] g
  refine nt_aload_n X dX0_knows_0 rfl 0 rfl ?_
  refine nt_get X b inX0 (nt_lP hw hb 0 (by decide)) (nt_eP hw hb) rfl (j := 0) (by decide) wd_250 (v := .ref (nt_a w 1)) rfl dX0_knows_1 ?_
  refine nt_aload_n X dX0_knows_4 rfl 0 rfl ?_
  refine nt_get X b inX0 (nt_lP hw hb 0 (by decide)) (nt_eP hw hb) rfl (j := 5) (by decide) wd_255 (v := .ref (nt_a w (b + 4))) rfl dX0_knows_5 ?_
  refine nt_iload_n X dX0_knows_8 rfl 1 rfl ?_
  obtain ⟨q1, h⟩ := nt_R_gd h
  refine nt_iald X (b + 4) 0 (nt_lP hw hb 4 (by decide)) (nt_eP4 hw hb) (nt_tX hw) q1 dX0_knows_9 ?_
  obtain ⟨r2, er2, h⟩ := nt_R_b1 h
  refine nt_cVNi X (As := [.int (g (b + 4) (Int32.toNatClampNeg x1))]) 1 (nt_lX hw (Nat.le_of_ble_eq_true rfl)) (nt_e1 hw) rfl (cSh_withTwins hw er2) wd_396 nt_nm24 wd_395 wd_1036 wd_2 hd_X5_withTwins ⟨Nat.le_of_ble_eq_true rfl, Nat.le_of_ble_eq_true rfl⟩ ⟨Nat.le_refl 0, Nat.le_refl 0⟩ (Nat.le_of_ble_eq_true rfl) rfl dX0_knows_10 ?_
  have h := nt_R_some h
  exact nt_iret X dX0_knows_13 (by rw [hg, h])
def bPp_lookInto_17 (b : Nat) (x1 : Int32) (x2 : Int32) (g : nt_T) : Option ((Int32 × nt_T) ⊕ ((nt_T))) :=
  (if (g b 7) ≤ x2 then
    (some (.inr g))
  else
    (nt_gd (nt_in x2 9) <| (if (g (b + 1) (Int32.toNatClampNeg x2)) = x1 then
    (nt_lt (nt_st g b 10 ((g b 10) + (1 : Int32))) fun g8 => nt_b1 (fPp_knows b x2 g8) fun r9 => nt_gd (nt_in x2 9) <| nt_lt (nt_st g8 (b + 6) (Int32.toNatClampNeg x2) r9) fun g11 => nt_gd (nt_in x2 9) <| nt_lt (nt_st g11 b 13 ((g11 b 13) ||| ((g11 b 12) &&& (g11 (b + 6) (Int32.toNatClampNeg x2))))) fun g13 => nt_gd (nt_in x2 9) <| nt_lt (nt_st g13 b 12 ((g13 b 12) ||| (g13 (b + 6) (Int32.toNatClampNeg x2)))) fun g15 => nt_lt (x2 + (1 : Int32)) fun v16 => some (.inl (v16, g15)))
  else
    (nt_lt (x2 + (1 : Int32)) fun v7 => some (.inl (v7, g))))))
set_option maxRecDepth 100000 in
set_option maxHeartbeats 4000000 in
theorem tbPp_lookInto_17 {p : Program} {l : Launch} {e : Env} {s : State} {m : MethodId} {args : Array Value} {below : List Frame} {meth : Method} {c : Code} {w : nt_w} {A : Nat → Prop} {b : Nat} (hw : nt_isX w) (hb : nt_isP b) {Q : State → Prop} (X : nt_X cX0_lookInto 3 RX0 none w A p s m args meth c) (x1 : Int32)  {Qx : ((nt_T)) → Prop} (hE0 : ∀ (gy : nt_T), Qx gy → nt_G p l e (nt_rm 5) s m args below meth c w A 0 0 Q 3 97 [(0, .ref (nt_a w b)), (1, .int x1)] [] gy) : ∀ (n : Nat) (x2 : Int32) (g : nt_T), nt_R (nt_it (fun z => bPp_lookInto_17 b x1 z.1 z.2) n (x2, g)) Qx → nt_G p l e (nt_rm 5) s m args below meth c w A 0 0 Q 3 17 [(0, .ref (nt_a w b)), (1, .int x1), (2, .int x2)] [] g := by
  intro n
  induction n with
  | zero =>
    intro x2 g h
    exact nt_R_none h
  | succ n ih =>
    intro x2 g h
    have h : nt_R (bPp_lookInto_17 b x1 x2 g) (nt_Qz (fun z => bPp_lookInto_17 b x1 z.1 z.2) n Qx) := nt_R_it h
    have hI : ∀ (y2 : Int32) (gy : nt_T), nt_Qz (fun z => bPp_lookInto_17 b x1 z.1 z.2) n Qx (.inl (y2, gy)) → nt_G p l e (nt_rm 5) s m args below meth c w A 0 0 Q 3 17 [(0, .ref (nt_a w b)), (1, .int x1), (2, .int y2)] [] gy := fun y2 gy q => ih y2 gy q
    have hE0 : ∀ (gy : nt_T), nt_Qz (fun z => bPp_lookInto_17 b x1 z.1 z.2) n Qx (.inr gy) → nt_G p l e (nt_rm 5) s m args below meth c w A 0 0 Q 3 97 [(0, .ref (nt_a w b)), (1, .int x1)] [] gy := hE0
    generalize nt_Qz (fun z => bPp_lookInto_17 b x1 z.1 z.2) n Qx = Qz at h hI hE0
    unfold bPp_lookInto_17 at h
    refine nt_iload_n X dX0_lookInto_17 rfl 2 rfl ?_
    refine nt_aload_n X dX0_lookInto_18 rfl 0 rfl ?_
    refine nt_get X b inX0 (nt_lP hw hb 0 (by decide)) (nt_eP hw hb) rfl (j := 7) (by decide) wd_257 (v := .int (g b 7)) rfl dX0_lookInto_19 ?_
    obtain ⟨ht, hf⟩ := nt_R_if h
    refine nt_icmp_ge X 97 dX0_lookInto_22 (by decide) (fun q4 => ?_) (fun q4 => ?_)
    · have h := ht q4
      refine nt_sub [0, 1] rfl ?_
      have h := nt_R_some h
      exact hE0 g h
    · have h := hf q4
      refine nt_aload_n X dX0_lookInto_25 rfl 0 rfl ?_
      refine nt_get X b inX0 (nt_lP hw hb 0 (by decide)) (nt_eP hw hb) rfl (j := 2) (by decide) wd_252 (v := .ref (nt_a w (b + 1))) rfl dX0_lookInto_26 ?_
      refine nt_iload_n X dX0_lookInto_29 rfl 2 rfl ?_
      obtain ⟨q5, h⟩ := nt_R_gd h
      refine nt_iald X (b + 1) 0 (nt_lP hw hb 1 (by decide)) (nt_eP1 hw hb) (nt_tX hw) q5 dX0_lookInto_30 ?_
      refine nt_iload_n X dX0_lookInto_31 rfl 1 rfl ?_
      obtain ⟨ht, hf⟩ := nt_R_if h
      refine nt_icmp_ne X 91 dX0_lookInto_32 (by decide) (fun q6 => ?_) (fun q6 => ?_)
      · have h := hf q6
        obtain ⟨v7, ev7, h⟩ := nt_R_lt h
        refine nt_iinc X v7 [(2, .int v7), (0, .ref (nt_a w b)), (1, .int x1)] dX0_lookInto_91 2 rfl (by rw [nt_ci_1]; exact ev7) (by decide) rfl ?_
        refine nt_goto X 17 dX0_lookInto_94 (by decide) ?_
        refine nt_sub [1, 2, 0] rfl ?_
        have h := nt_R_some h
        exact hI v7 g h
      · have h := ht q6
        refine nt_aload_n X dX0_lookInto_35 rfl 0 rfl ?_
        refine nt_dup X dX0_lookInto_36 rfl ?_
        refine nt_get X b inX0 (nt_lP hw hb 0 (by decide)) (nt_eP hw hb) rfl (j := 10) (by decide) wd_260 (v := .int (g b 10)) rfl dX0_lookInto_37 ?_
        refine nt_iconst X dX0_lookInto_40 nt_ci_1 ?_
        refine nt_iadd X dX0_lookInto_41 ?_
        refine nt_put X b inX0 (nt_lP hw hb 0 (by decide)) (nt_eP hw hb) rfl (j := 10) (by decide) wd_260 tyX0 tyX0_ok nmX0 rfl (ty := .int) rfl rfl rfl (fun _ => Nat.le_of_ble_eq_true rfl) (fun _ => rfl) dX0_lookInto_42 ?_
        obtain ⟨g8, eg8, h⟩ := nt_R_lt h
        refine nt_geq eg8 ?_
        refine nt_aload_n X dX0_lookInto_45 rfl 0 rfl ?_
        refine nt_get X b inX0 (nt_lP hw hb 0 (by decide)) (nt_eP hw hb) rfl (j := 11) (by decide) wd_261 (v := .ref (nt_a w (b + 6))) rfl dX0_lookInto_46 ?_
        refine nt_iload_n X dX0_lookInto_49 rfl 2 rfl ?_
        refine nt_aload_n X dX0_lookInto_50 rfl 0 rfl ?_
        refine nt_iload_n X dX0_lookInto_51 rfl 2 rfl ?_
        obtain ⟨r9, er9, h⟩ := nt_R_b1 h
        refine nt_cVi X (As := [.int x2]) b (nt_lP hw hb 0 (by decide)) (nt_eP hw hb) rfl (cPp_knows hw hb er9) wd_394 wd_422 wd_393 wd_1035 wd_13 rfl hd_X0_knows ⟨Nat.le_of_ble_eq_true rfl, Nat.le_of_ble_eq_true rfl⟩ ⟨Nat.le_refl 0, Nat.le_refl 0⟩ (Nat.le_of_ble_eq_true rfl) rfl dX0_lookInto_52 ?_
        obtain ⟨q10, h⟩ := nt_R_gd h
        refine nt_iast X (b + 6) 0 (nt_lP hw hb 6 (by decide)) (nt_eP6 hw hb) (nt_tX hw) q10 dX0_lookInto_55 ?_
        obtain ⟨g11, eg11, h⟩ := nt_R_lt h
        refine nt_geq eg11 ?_
        refine nt_aload_n X dX0_lookInto_56 rfl 0 rfl ?_
        refine nt_dup X dX0_lookInto_57 rfl ?_
        refine nt_get X b inX0 (nt_lP hw hb 0 (by decide)) (nt_eP hw hb) rfl (j := 13) (by decide) wd_263 (v := .int (g11 b 13)) rfl dX0_lookInto_58 ?_
        refine nt_aload_n X dX0_lookInto_61 rfl 0 rfl ?_
        refine nt_get X b inX0 (nt_lP hw hb 0 (by decide)) (nt_eP hw hb) rfl (j := 12) (by decide) wd_262 (v := .int (g11 b 12)) rfl dX0_lookInto_62 ?_
        refine nt_aload_n X dX0_lookInto_65 rfl 0 rfl ?_
        refine nt_get X b inX0 (nt_lP hw hb 0 (by decide)) (nt_eP hw hb) rfl (j := 11) (by decide) wd_261 (v := .ref (nt_a w (b + 6))) rfl dX0_lookInto_66 ?_
        refine nt_iload_n X dX0_lookInto_69 rfl 2 rfl ?_
        obtain ⟨q12, h⟩ := nt_R_gd h
        refine nt_iald X (b + 6) 0 (nt_lP hw hb 6 (by decide)) (nt_eP6 hw hb) (nt_tX hw) q12 dX0_lookInto_70 ?_
        refine nt_iand X dX0_lookInto_71 ?_
        refine nt_ior X dX0_lookInto_72 ?_
        refine nt_put X b inX0 (nt_lP hw hb 0 (by decide)) (nt_eP hw hb) rfl (j := 13) (by decide) wd_263 tyX0 tyX0_ok nmX0 rfl (ty := .int) rfl rfl rfl (fun _ => Nat.le_of_ble_eq_true rfl) (fun _ => rfl) dX0_lookInto_73 ?_
        obtain ⟨g13, eg13, h⟩ := nt_R_lt h
        refine nt_geq eg13 ?_
        refine nt_aload_n X dX0_lookInto_76 rfl 0 rfl ?_
        refine nt_dup X dX0_lookInto_77 rfl ?_
        refine nt_get X b inX0 (nt_lP hw hb 0 (by decide)) (nt_eP hw hb) rfl (j := 12) (by decide) wd_262 (v := .int (g13 b 12)) rfl dX0_lookInto_78 ?_
        refine nt_aload_n X dX0_lookInto_81 rfl 0 rfl ?_
        refine nt_get X b inX0 (nt_lP hw hb 0 (by decide)) (nt_eP hw hb) rfl (j := 11) (by decide) wd_261 (v := .ref (nt_a w (b + 6))) rfl dX0_lookInto_82 ?_
        refine nt_iload_n X dX0_lookInto_85 rfl 2 rfl ?_
        obtain ⟨q14, h⟩ := nt_R_gd h
        refine nt_iald X (b + 6) 0 (nt_lP hw hb 6 (by decide)) (nt_eP6 hw hb) (nt_tX hw) q14 dX0_lookInto_86 ?_
        refine nt_ior X dX0_lookInto_87 ?_
        refine nt_put X b inX0 (nt_lP hw hb 0 (by decide)) (nt_eP hw hb) rfl (j := 12) (by decide) wd_262 tyX0 tyX0_ok nmX0 rfl (ty := .int) rfl rfl rfl (fun _ => Nat.le_of_ble_eq_true rfl) (fun _ => rfl) dX0_lookInto_88 ?_
        obtain ⟨g15, eg15, h⟩ := nt_R_lt h
        refine nt_geq eg15 ?_
        obtain ⟨v16, ev16, h⟩ := nt_R_lt h
        refine nt_iinc X v16 [(2, .int v16), (0, .ref (nt_a w b)), (1, .int x1)] dX0_lookInto_91 2 rfl (by rw [nt_ci_1]; exact ev16) (by decide) rfl ?_
        refine nt_goto X 17 dX0_lookInto_94 (by decide) ?_
        refine nt_sub [1, 2, 0] rfl ?_
        have h := nt_R_some h
        exact hI v16 g15 h
def fPp_lookInto (b : Nat) (x1 : Int32) (g : nt_T) : Option (nt_T) :=
  nt_lt (nt_st g b 10 (0 : Int32)) fun g1 => nt_lt (nt_st g1 b 12 (0 : Int32)) fun g2 => nt_lt (nt_st g2 b 13 (0 : Int32)) fun g3 => (nt_b1 (nt_it (fun z => bPp_lookInto_17 b x1 z.1 z.2) nt_fu ((0 : Int32), g3)) fun g17 => some g17)
set_option maxRecDepth 100000 in
set_option maxHeartbeats 4000000 in
theorem cPp_lookInto {l : Launch} {w : nt_w} (hw : nt_isX w) {b : Nat} (hb : nt_isP b) {x1 : Int32} {g : nt_T} {g2 : nt_T} (hf : fPp_lookInto b x1 g = some g2) : nt_Mv l w yX0_lookInto cX0_lookInto 3 none 5 [.ref (nt_a w b), .int x1] g g2 := by
  refine nt_Mv_of (by decide) (Nat.le_of_ble_eq_true rfl) (fun p e s m args below meth c A X => ?_)
  have X : nt_X cX0_lookInto 3 RX0 none w A p s m args meth c := X
  have h : nt_R (fPp_lookInto b x1 g) (fun z => z = g2) := ⟨_, hf, rfl⟩
  unfold fPp_lookInto at h
  show nt_G p l e (nt_rm 5) s m args below meth c w A 0 0 (nt_Qv w A below args s g2) 3 0 [(0, .ref (nt_a w b)), (1, .int x1)] [] g
  refine nt_aload_n X dX0_lookInto_0 rfl 0 rfl ?_
  refine nt_iconst X dX0_lookInto_1 nt_ci_0 ?_
  refine nt_put X b inX0 (nt_lP hw hb 0 (by decide)) (nt_eP hw hb) rfl (j := 10) (by decide) wd_260 tyX0 tyX0_ok nmX0 rfl (ty := .int) rfl rfl rfl (fun _ => Nat.le_of_ble_eq_true rfl) (fun _ => rfl) dX0_lookInto_2 ?_
  obtain ⟨g1, eg1, h⟩ := nt_R_lt h
  refine nt_geq eg1 ?_
  refine nt_aload_n X dX0_lookInto_5 rfl 0 rfl ?_
  refine nt_iconst X dX0_lookInto_6 nt_ci_0 ?_
  refine nt_put X b inX0 (nt_lP hw hb 0 (by decide)) (nt_eP hw hb) rfl (j := 12) (by decide) wd_262 tyX0 tyX0_ok nmX0 rfl (ty := .int) rfl rfl rfl (fun _ => Nat.le_of_ble_eq_true rfl) (fun _ => rfl) dX0_lookInto_7 ?_
  obtain ⟨g2, eg2, h⟩ := nt_R_lt h
  refine nt_geq eg2 ?_
  refine nt_aload_n X dX0_lookInto_10 rfl 0 rfl ?_
  refine nt_iconst X dX0_lookInto_11 nt_ci_0 ?_
  refine nt_put X b inX0 (nt_lP hw hb 0 (by decide)) (nt_eP hw hb) rfl (j := 13) (by decide) wd_263 tyX0 tyX0_ok nmX0 rfl (ty := .int) rfl rfl rfl (fun _ => Nat.le_of_ble_eq_true rfl) (fun _ => rfl) dX0_lookInto_12 ?_
  obtain ⟨g3, eg3, h⟩ := nt_R_lt h
  refine nt_geq eg3 ?_
  refine nt_iconst X dX0_lookInto_15 nt_ci_0 ?_
  refine nt_istore_n X [(2, .int (0 : Int32)), (0, .ref (nt_a w b)), (1, .int x1)] dX0_lookInto_16 rfl (by decide) rfl ?_
  obtain ⟨z18, hz18, h⟩ := nt_R_b1 h
  refine nt_sub [1, 2, 0] rfl ?_
  refine tbPp_lookInto_17 hw hb X x1 (Qx := fun z => z = z18) (fun g17 hq => ?_) nt_fu (0 : Int32) g3 ⟨_, hz18, rfl⟩
  subst hq
  have h := nt_R_some h
  exact nt_vret X dX0_lookInto_97 h
end
