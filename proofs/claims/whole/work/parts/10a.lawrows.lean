/-! ===== the law: two worlds side by side ===== -/
/-- apart -/
def nt_apW (w1 w2 : nt_w) : Prop := ∀ i j, i < nt_n w1 → j < nt_n w2 → nt_a w1 i ≠ nt_a w2 j
theorem nt_apW_sym {w1 w2 : nt_w} (h : nt_apW w1 w2) : nt_apW w2 w1 := fun i j hi hj e => h j i hj hi e.symm
/-- what stands still in the law -/
def nt_LX (p : Program) (s : State) (m : MethodId) (meth : Method) (c : Code) (b L : Nat) (xs : Nat → Int32) : Prop := p.tables.exec = Jvm.exec ∧ c.code = code ∧ c.maxLocals = 4 ∧ s.vm.findClass RL = some m.cls ∧ (∀ q ∈ nt_tbl, q.before #[Value.ref b] s = true) ∧ va_X b L xs s s.heap ∧ b < s.heap.size ∧ meth.sig.returnType = ret ∧ meth.locks = false
/-- a world of the law's -/
def nt_LW (s : State) (w : nt_w) : Prop := va_K w.1 vwCl w.2.1 s ∧ nt_Z w.2.2.1 w.2.2.2.1 (fun q : Nat => s.heap.size ≤ q) s s.heap
/-- the law at pc, with these locals, this stack, these two worlds, comes to its end -/
def nt_LG (p : Program) (l : Launch) (e : Env) (s : State) (m : MethodId) (below : List Frame) (meth : Method) (c : Code) (b : Nat) (cells slots : Nat) (pc : Nat) (lv : List (Nat × Value)) (st : List Value) (w1 : nt_w) (g1 : nt_T) (w2 : nt_w) (g2 : nt_T) : Prop :=
  ∀ (H : Heap) (locs : List Loc) (ls : Array Slot), va_P w1.1 vwCl (nt_W w1 g1) H → va_P w2.1 vwCl (nt_W w2 g2) H → va_D (fun q : Nat => s.heap.size ≤ q) (nt_W w1 g1) → va_D (fun q : Nat => s.heap.size ≤ q) (nt_W w2 g2) → va_S (fun q : Nat => s.heap.size ≤ q) s.heap H locs → lv_has ls 4 lv → W p l e room_1 s m #[Value.ref b] below meth c H locs cells slots (lw_Z below #[Value.ref b] s) (F0 m pc ls st)
section LG
variable {p : Program} {l : Launch} {e : Env} {s : State} {m : MethodId} {below : List Frame} {meth : Method} {c : Code} {b L : Nat} {xs : Nat → Int32} {cells slots pc : Nat} {lv : List (Nat × Value)} {st : List Value} {w1 w2 : nt_w} {g1 g2 : nt_T}
theorem nt_Lswap (k : nt_LG p l e s m below meth c b cells slots pc lv st w2 g2 w1 g1) : nt_LG p l e s m below meth c b cells slots pc lv st w1 g1 w2 g2 := fun H locs ls h1 h2 h3 h4 hS hl => k H locs ls h2 h1 h4 h3 hS hl
theorem nt_Laload (X : nt_LX p s m meth c b L xs) {q : Fin 4} {i x : Nat} (d : decode code pc = .ok (.aload_n q, 1)) (hi : (q : Nat) = i) (z : Nat) (hz : lv[z]? = some (i, .ref x)) (k : nt_LG p l e s m below meth c b cells slots (pc + 1) lv (.ref x :: st) w1 g1 w2 g2) : nt_LG p l e s m below meth c b cells slots pc lv st w1 g1 w2 g2 := fun H locs ls h1 h2 h3 h4 hS hl => lv_aload_n X.1 X.2.1 d hi (lv_at hl z hz) (k H locs ls h1 h2 h3 h4 hS hl)
theorem nt_Liload (X : nt_LX p s m meth c b L xs) {q : Fin 4} {i : Nat} {x : Int32} (d : decode code pc = .ok (.iload_n q, 1)) (hi : (q : Nat) = i) (z : Nat) (hz : lv[z]? = some (i, .int x)) (k : nt_LG p l e s m below meth c b cells slots (pc + 1) lv (.int x :: st) w1 g1 w2 g2) : nt_LG p l e s m below meth c b cells slots pc lv st w1 g1 w2 g2 := fun H locs ls h1 h2 h3 h4 hS hl => lv_iload_n X.1 X.2.1 d hi (lv_at hl z hz) (k H locs ls h1 h2 h3 h4 hS hl)
theorem nt_Liconst (X : nt_LX p s m meth c b L xs) {n : Int} {v : Int32} (d : decode code pc = .ok (.iconst n, 1)) (hv : Int32.ofInt n = v) (k : nt_LG p l e s m below meth c b cells slots (pc + 1) lv (.int v :: st) w1 g1 w2 g2) : nt_LG p l e s m below meth c b cells slots pc lv st w1 g1 w2 g2 := fun H locs ls h1 h2 h3 h4 hS hl => lv_iconst X.1 X.2.1 d hv (k H locs ls h1 h2 h3 h4 hS hl)
theorem nt_Lbipush (X : nt_LX p s m meth c b L xs) {n : Int} {v : Int32} (d : decode code pc = .ok (.bipush n, 2)) (hv : (Int8.ofInt n).toInt32 = v) (k : nt_LG p l e s m below meth c b cells slots (pc + 2) lv (.int v :: st) w1 g1 w2 g2) : nt_LG p l e s m below meth c b cells slots pc lv st w1 g1 w2 g2 := fun H locs ls h1 h2 h3 h4 hS hl => lv_bipush X.1 X.2.1 d hv (k H locs ls h1 h2 h3 h4 hS hl)
theorem nt_Liadd (X : nt_LX p s m meth c b L xs) {x y : Int32} (d : decode code pc = .ok (.iadd, 1)) (k : nt_LG p l e s m below meth c b cells slots (pc + 1) lv (.int (x + y) :: st) w1 g1 w2 g2) : nt_LG p l e s m below meth c b cells slots pc lv (.int y :: .int x :: st) w1 g1 w2 g2 := fun H locs ls h1 h2 h3 h4 hS hl => lv_iadd X.1 X.2.1 d (k H locs ls h1 h2 h3 h4 hS hl)
theorem nt_Lisub (X : nt_LX p s m meth c b L xs) {x y : Int32} (d : decode code pc = .ok (.isub, 1)) (k : nt_LG p l e s m below meth c b cells slots (pc + 1) lv (.int (x - y) :: st) w1 g1 w2 g2) : nt_LG p l e s m below meth c b cells slots pc lv (.int y :: .int x :: st) w1 g1 w2 g2 := fun H locs ls h1 h2 h3 h4 hS hl => lv_isub X.1 X.2.1 d (k H locs ls h1 h2 h3 h4 hS hl)
theorem nt_Liand (X : nt_LX p s m meth c b L xs) {x y : Int32} (d : decode code pc = .ok (.iand, 1)) (k : nt_LG p l e s m below meth c b cells slots (pc + 1) lv (.int (x &&& y) :: st) w1 g1 w2 g2) : nt_LG p l e s m below meth c b cells slots pc lv (.int y :: .int x :: st) w1 g1 w2 g2 := fun H locs ls h1 h2 h3 h4 hS hl => lv_iand X.1 X.2.1 d (k H locs ls h1 h2 h3 h4 hS hl)
theorem nt_Lsld (X : nt_LX p s m meth c b L xs) {i : Int32} (hin : vp_in i L) (d : decode code pc = .ok (.iaload, 1)) (k : nt_LG p l e s m below meth c b cells slots (pc + 1) lv (.int (xs i.toNatClampNeg) :: st) w1 g1 w2 g2) : nt_LG p l e s m below meth c b cells slots pc lv (.int i :: .ref b :: st) w1 g1 w2 g2 := fun H locs ls h1 h2 h3 h4 hS hl => va_sld X.1 X.2.1 X.2.2.2.2.2.1 X.2.2.2.2.2.2.1 (Nat.not_le.mpr X.2.2.2.2.2.2.1) hS hin d (k H locs ls h1 h2 h3 h4 hS hl)
theorem nt_Lslen (X : nt_LX p s m meth c b L xs) (d : decode code pc = .ok (.arraylength, 1)) (k : nt_LG p l e s m below meth c b cells slots (pc + 1) lv (.int (Int32.ofNat L) :: st) w1 g1 w2 g2) : nt_LG p l e s m below meth c b cells slots pc lv (.ref b :: st) w1 g1 w2 g2 := fun H locs ls h1 h2 h3 h4 hS hl => va_slen X.1 X.2.1 X.2.2.2.2.2.1 X.2.2.2.2.2.2.1 (Nat.not_le.mpr X.2.2.2.2.2.2.1) hS d (k H locs ls h1 h2 h3 h4 hS hl)
theorem nt_Lgoto (X : nt_LX p s m meth c b L xs) {off : Int} (tgt : Nat) (d : decode code pc = .ok (.goto off, 3)) (ht : (pc : Int) + off = (tgt : Int)) (k : nt_LG p l e s m below meth c b cells slots tgt lv st w1 g1 w2 g2) : nt_LG p l e s m below meth c b cells slots pc lv st w1 g1 w2 g2 := fun H locs ls h1 h2 h3 h4 hS hl => lv_goto X.1 X.2.1 d ht (k H locs ls h1 h2 h3 h4 hS hl)
theorem nt_Licmpeq (X : nt_LX p s m meth c b L xs) {x : Int32} {off : Int} (tgt : Nat) (d : decode code pc = .ok (.if_icmp .eq off, 3)) (ht : (pc : Int) + off = (tgt : Int)) (k : nt_LG p l e s m below meth c b cells slots tgt lv st w1 g1 w2 g2) : nt_LG p l e s m below meth c b cells slots pc lv (.int x :: .int x :: st) w1 g1 w2 g2 := fun H locs ls h1 h2 h3 h4 hS hl => lv_icmp_eq X.1 X.2.1 d ht (fun _ => k H locs ls h1 h2 h3 h4 hS hl) (fun q => absurd rfl q)
theorem nt_Llcmp (X : nt_LX p s m meth c b L xs) {x : Int64} {off : Int} (tgt : Nat) (d : decode code pc = .ok (.lcmp, 1)) (d2 : decode code (pc + 1) = .ok (.ifCond .eq off, 3)) (ht : ((pc + 1 : Nat) : Int) + off = (tgt : Int)) (k : nt_LG p l e s m below meth c b cells slots tgt lv st w1 g1 w2 g2) : nt_LG p l e s m below meth c b cells slots pc lv (.long x :: .long x :: st) w1 g1 w2 g2 := fun H locs ls h1 h2 h3 h4 hS hl => W.lcmp X.1 X.2.1 d (lv_if_eq X.1 X.2.1 d2 ht (fun _ => k H locs ls h1 h2 h3 h4 hS hl) (fun q => absurd ((lg_cmp_eq x x).mpr rfl) q))
theorem nt_Licmpgt (X : nt_LX p s m meth c b L xs) {x y : Int32} {off : Int} (tgt : Nat) (d : decode code pc = .ok (.if_icmp .gt off, 3)) (ht : (pc : Int) + off = (tgt : Int)) (kt : y < x → nt_LG p l e s m below meth c b cells slots tgt lv st w1 g1 w2 g2) (kf : ¬ y < x → nt_LG p l e s m below meth c b cells slots (pc + 3) lv st w1 g1 w2 g2) : nt_LG p l e s m below meth c b cells slots pc lv (.int y :: .int x :: st) w1 g1 w2 g2 := fun H locs ls h1 h2 h3 h4 hS hl => lv_icmp_gt X.1 X.2.1 d ht (fun q => kt q H locs ls h1 h2 h3 h4 hS hl) (fun q => kf q H locs ls h1 h2 h3 h4 hS hl)
theorem nt_Ltbl (X : nt_LX p s m meth c b L xs) {dflt lo hi : Int} {offs : Array Int} {len : Nat} {x : Int32} {off : Int} (tgt : Nat) (d : decode code pc = .ok (.tableswitch dflt lo hi offs, len)) (h1 : ¬ x.toInt < lo) (h2 : ¬ hi < x.toInt) (ho : offs[(x.toInt - lo).toNat]? = some off) (ht : (pc : Int) + off = (tgt : Int)) (k : nt_LG p l e s m below meth c b cells slots tgt lv st w1 g1 w2 g2) : nt_LG p l e s m below meth c b cells slots pc lv (.int x :: st) w1 g1 w2 g2 := fun H locs ls a1 a2 a3 a4 hS hl => lv_tableIn X.1 X.2.1 d h1 h2 ho ht (k H locs ls a1 a2 a3 a4 hS hl)
theorem nt_Liinc (X : nt_LX p s m meth c b L xs) {i : Nat} {n : Int} {x y : Int32} {lv2 : List (Nat × Value)} (d : decode code pc = .ok (.iinc i n, 3)) (z : Nat) (hz : lv[z]? = some (i, .int x)) (hy : x + Int32.ofInt n = y) (hn : i < 4) (hl2 : (i, Value.int y) :: lv.filter (fun q => !(q.1 == i) && !(q.1 + 1 == i && q.2.category == 2)) = lv2) (k : nt_LG p l e s m below meth c b cells slots (pc + 3) lv2 st w1 g1 w2 g2) : nt_LG p l e s m below meth c b cells slots pc lv st w1 g1 w2 g2 := fun H locs ls h1 h2 h3 h4 hS hl => lv_iinc (v := y) X.1 X.2.1 d hl hz hy hn hl2 (fun ls2 hl3 => k H locs ls2 h1 h2 h3 h4 hS hl3)
theorem nt_Lsub {lv2 : List (Nat × Value)} (ks : List Nat) (h : lv_pick lv ks = lv2) (k : nt_LG p l e s m below meth c b cells slots pc lv2 st w1 g1 w2 g2) : nt_LG p l e s m below meth c b cells slots pc lv st w1 g1 w2 g2 := fun H locs ls h1 h2 h3 h4 hS hl => k H locs ls h1 h2 h3 h4 hS (lv_sub hl ks h)
theorem nt_Lwiden {cells2 slots2 : Nat} (h1 : cells ≤ cells2) (h2 : slots ≤ slots2) (k : nt_LG p l e s m below meth c b cells2 slots2 pc lv st w1 g1 w2 g2) : nt_LG p l e s m below meth c b cells slots pc lv st w1 g1 w2 g2 := fun H locs ls a1 a2 a3 a4 hS hl => W.widen h1 h2 (k H locs ls a1 a2 a3 a4 hS hl)
/-- a number of the script: aload, iload, iconst, iadd, iaload -/
theorem nt_Lget (X : nt_LX p s m meth c b L xs) (hL : L ≤ 384) (i k : Nat) {n : Int} {q0 q3 : Fin 4} (d0 : decode code pc = .ok (.aload_n q0, 1)) (d1 : decode code (pc + 1) = .ok (.iload_n q3, 1)) (d2 : decode code (pc + 2) = .ok (.iconst n, 1)) (d3 : decode code (pc + 3) = .ok (.iadd, 1)) (d4 : decode code (pc + 4) = .ok (.iaload, 1)) (h0 : (q0 : Nat) = 0) (h3 : (q3 : Nat) = 3) (hv : Int32.ofInt n = nI k) (z0 z3 : Nat) (hz0 : lv[z0]? = some (0, .ref b)) (hz3 : lv[z3]? = some (3, .int (nI i))) (hik : i + k < L) (kk : nt_LG p l e s m below meth c b cells slots (pc + 5) lv (.int (xs (i + k)) :: st) w1 g1 w2 g2) : nt_LG p l e s m below meth c b cells slots pc lv st w1 g1 w2 g2 := by
  refine nt_Laload X d0 h0 z0 hz0 ?_
  refine nt_Liload X d1 h3 z3 hz3 ?_
  refine nt_Liconst X d2 hv ?_
  refine nt_Liadd X d3 ?_
  rw [nI_add]
  refine nt_Lsld X (vp_in_nI hik (by omega)) d4 ?_
  rw [nI_clamp (by omega)]
  exact kk
theorem nt_Lfree {H : Heap} {locs : List Loc} (hD : va_D (fun q : Nat => s.heap.size ≤ q) (nt_W w1 g1)) (hS : va_S (fun q : Nat => s.heap.size ≤ q) s.heap H locs) : ∀ q, va_A (nt_W w1 g1) H.size q → s.heap.size ≤ q := by
  intro q h
  rcases h with ⟨k, e, h⟩ | h
  · exact hD.2 k _ h
  · exact Nat.le_trans hS.1 h
theorem nt_Lpre {H : Heap} {locs : List Loc} (hW : nt_LW s w1) (hP : va_P w1.1 vwCl (nt_W w1 g1) H) (hD : va_D (fun q : Nat => s.heap.size ≤ q) (nt_W w1 g1)) (hS : va_S (fun q : Nat => s.heap.size ≤ q) s.heap H locs) (av : List Value) : ∀ U : State, U.heap = H → s.WarmedH U.vm → va_Pc av (nt_P w1 g1 H.size) av.toArray U := by
  intro U hU hWm
  refine ⟨rfl, by rw [hU], by rw [hU]; exact hP, va_K.moved hWm.alike hW.1, hD.weaken (fun _ _ _ _ => trivial), ?_⟩
  rw [hU]
  exact nt_Z_go hW.2 hWm (nt_Lfree hD hS) hS
/-- the other world stays -/
theorem nt_Lkept (hap : nt_apW w1 w2) {H H1 : Heap} (h2 : va_P w2.1 vwCl (nt_W w2 g2) H) (hk : ∀ q : Nat, q < H.size → ¬ va_A (nt_W w1 g1) H.size q → H1[q]? = H[q]?) : va_P w2.1 vwCl (nt_W w2 g2) H1 := by
  refine h2.kept (fun k q hq => hk q.1 (h2 k q hq).lt (fun h => ?_))
  rcases h with ⟨k2, e, h⟩ | h
  · obtain ⟨a1, a2⟩ := nt_W_inv hq
    obtain ⟨b1, b2⟩ := nt_W_inv h
    exact hap k2 k b1 a1 ((congrArg Prod.fst b2).symm.trans (congrArg Prod.fst a2))
  · have := (h2 k q hq).lt
    omega
theorem nt_Lgood {own : String} {index : Nat} {C : String} {y : MethodName} {bytes : ByteArray} {maxL : Nat} {rt : Option FieldType} (hw0 : Cond.code y bytes maxL rt ∈ nt_tbl) (hw1 : Cond.methodLink own index y ∈ nt_tbl) (hw2 : Cond.instanceMethod y ∈ nt_tbl) (hw3 : Cond.selects C y y ∈ nt_tbl) (hw4 : Cond.initialized C ∈ nt_tbl) : GoodIn nt_tbl (wsV own index C y (nt_ws y bytes maxL rt)) := by
  intro q hq
  rcases List.mem_append.mp hq with h | h
  · have hm : q ∈ nt_tbl := by
      rcases List.mem_cons.mp h with rfl | h
      · exact hw1
      rcases List.mem_cons.mp h with rfl | h
      · exact hw2
      rcases List.mem_cons.mp h with rfl | h
      · exact hw3
      rcases List.mem_cons.mp h with rfl | h
      · exact hw4
      cases h
    exact ⟨hm, good_of_word (nt_good q hm)⟩
  · exact nt_ws_good hw0 q h
/-- a call of the first world's object: int comes back -/
theorem nt_Lci (X : nt_LX p s m meth c b L xs) (hW : nt_LW s w1) (hap : nt_apW w1 w2) {y : MethodName} {bytes : ByteArray} {maxL dp index : Nat} {rt : Option FieldType} {As stk rest : List Value} {r : Int32} {g1' : nt_T} {C : String} {T : u_T} {N ci : Nat} {tp : (Nat → Int32) → List Value} (hn : 0 < nt_n w1) (hE : nt_E w1 0 = fun f => .inr (ci, tp f)) (hc : vwCl[ci]? = some (C, T, N)) (hM : nt_Mi l w1 y bytes maxL rt dp (.ref (nt_a w1 0) :: As) g1 r g1') (hw0 : Cond.code y bytes maxL rt ∈ nt_tbl) (hw1 : Cond.methodLink RL index y ∈ nt_tbl) (hw2 : Cond.instanceMethod y ∈ nt_tbl) (hw3 : Cond.selects C y y ∈ nt_tbl) (hw4 : Cond.initialized C ∈ nt_tbl) (hC : y.cls = C) (hd : y.cls ≠ "java/lang/invoke/MethodHandle" ∧ y.cls ≠ "java/lang/invoke/VarHandle" ∧ (parseMethodDescriptor y.desc).map (fun d => d.parameters.length) = some As.length) (hR : dp + 1 ≤ room_1.frames ∧ 8 + (maxL + 11) + 60 * dp ≤ room_1.locals) (hcs : cells ≤ room_1.cells ∧ slots ≤ room_1.slots) (hrs : (rest.map fun v => v.category).sum ≤ 8) (hst : stk = As.reverse ++ .ref (nt_a w1 0) :: rest) (d : decode code pc = .ok (.invokevirtual index, 3)) (k : nt_LG p l e s m below meth c b cells slots (pc + 3) lv (.int r :: rest) w1 g1' w2 g2) : nt_LG p l e s m below meth c b cells slots pc lv stk w1 g1 w2 g2 := by
  intro H locs ls h1 h2 h3 h4 hS hl
  subst hst
  have he : (nt_W w1 g1)[0]? = some (nt_a w1 0, .inr (ci, tp (g1 0))) := by rw [nt_W_at hn, hE]
  have hFc := nt_Lfree h3 hS
  refine va_calli (va_runV (As := As) (rest := rest) (C := C) ⟨X.1, X.2.1, X.2.2.1, X.2.2.2.1, X.2.2.2.2.1⟩ (hM H.size) (cwV As.length X.2.2.2.2.1 (nt_Lgood hw0 hw1 hw2 hw3 hw4) rfl rfl rfl ⟨hC, hd⟩ hR) ⟨nt_blind, va_recv hW.1 h1 hc he, nt_Lpre hW h1 h3 hS _⟩ rfl rfl hl.1 rfl (lv_room hrs) d hcs) hS (fun q _ h => hFc q h) hFc (fun r1 u t H1 locs1 ht hvm hw hB hz1 hk1 hS1 => ?_)
  obtain ⟨rfl, rfl⟩ := hw
  refine k H1 locs1 ls ?_ (nt_Lkept hap h2 hk1) (nt_W_dom h3) h4 hS1 hl
  rw [← ht]
  exact hB
/-- a call of the first world's object: long comes back -/
theorem nt_Lcl (X : nt_LX p s m meth c b L xs) (hW : nt_LW s w1) (hap : nt_apW w1 w2) {y : MethodName} {bytes : ByteArray} {maxL dp index : Nat} {rt : Option FieldType} {As stk rest : List Value} {r : Int64} {g1' : nt_T} {C : String} {T : u_T} {N ci : Nat} {tp : (Nat → Int32) → List Value} (hn : 0 < nt_n w1) (hE : nt_E w1 0 = fun f => .inr (ci, tp f)) (hc : vwCl[ci]? = some (C, T, N)) (hM : nt_Ml l w1 y bytes maxL rt dp (.ref (nt_a w1 0) :: As) g1 r g1') (hw0 : Cond.code y bytes maxL rt ∈ nt_tbl) (hw1 : Cond.methodLink RL index y ∈ nt_tbl) (hw2 : Cond.instanceMethod y ∈ nt_tbl) (hw3 : Cond.selects C y y ∈ nt_tbl) (hw4 : Cond.initialized C ∈ nt_tbl) (hC : y.cls = C) (hd : y.cls ≠ "java/lang/invoke/MethodHandle" ∧ y.cls ≠ "java/lang/invoke/VarHandle" ∧ (parseMethodDescriptor y.desc).map (fun d => d.parameters.length) = some As.length) (hR : dp + 1 ≤ room_1.frames ∧ 8 + (maxL + 11) + 60 * dp ≤ room_1.locals) (hcs : cells ≤ room_1.cells ∧ slots ≤ room_1.slots) (hrs : (rest.map fun v => v.category).sum ≤ 8) (hst : stk = As.reverse ++ .ref (nt_a w1 0) :: rest) (d : decode code pc = .ok (.invokevirtual index, 3)) (k : nt_LG p l e s m below meth c b cells slots (pc + 3) lv (.long r :: rest) w1 g1' w2 g2) : nt_LG p l e s m below meth c b cells slots pc lv stk w1 g1 w2 g2 := by
  intro H locs ls h1 h2 h3 h4 hS hl
  subst hst
  have he : (nt_W w1 g1)[0]? = some (nt_a w1 0, .inr (ci, tp (g1 0))) := by rw [nt_W_at hn, hE]
  have hFc := nt_Lfree h3 hS
  refine va_calll (va_runV (As := As) (rest := rest) (C := C) ⟨X.1, X.2.1, X.2.2.1, X.2.2.2.1, X.2.2.2.2.1⟩ (hM H.size) (cwV As.length X.2.2.2.2.1 (nt_Lgood hw0 hw1 hw2 hw3 hw4) rfl rfl rfl ⟨hC, hd⟩ hR) ⟨nt_blind, va_recv hW.1 h1 hc he, nt_Lpre hW h1 h3 hS _⟩ rfl rfl hl.1 rfl (lv_room hrs) d hcs) hS (fun q _ h => hFc q h) hFc (fun r1 u t H1 locs1 ht hvm hw hB hz1 hk1 hS1 => ?_)
  obtain ⟨rfl, rfl⟩ := hw
  refine k H1 locs1 ls ?_ (nt_Lkept hap h2 hk1) (nt_W_dom h3) h4 hS1 hl
  rw [← ht]
  exact hB
/-- text(), where the class's world has one text more -/
theorem nt_Lctext (X : nt_LX p s m meth c b L xs) (hW : nt_LW s w1) (hap : nt_apW w1 w2) {nr : Nat} {ln : Nat → Nat} (hR0 : nt_isR w1 nr ln) {ga gb : nt_T} (hnf : fTx_isFull g1 = some 0) (hrd : fRd_reads g1 = some (1, ga)) (hs0 : ¬ ga 10 7 < 0) (hs9 : (ga 10 7).toNatClampNeg ≤ 160) (hnf1 : fTx_isFull (nt_pg w1 ga (ga 13 (Int32.toNatClampNeg 1)) (ga 13 (Int32.toNatClampNeg 2)) (va_cpy (ga 12) (fun _ => 0) (Int32.toNatClampNeg 0) (Int32.toNatClampNeg 0) (ga 10 7).toNatClampNeg)) = some 0) (hi : nt_in (ga 6 3) 6 = true) (hnr : (ga 6 3).toNatClampNeg = nr) (hem : fRd_empty (nt_st (nt_pg w1 ga (ga 13 (Int32.toNatClampNeg 1)) (ga 13 (Int32.toNatClampNeg 2)) (va_cpy (ga 12) (fun _ => 0) (Int32.toNatClampNeg 0) (Int32.toNatClampNeg 0) (ga 10 7).toNatClampNeg)) 6 3 (ga 6 3 + 1)) = some gb) {rest : List Value} {index : Nat} (hw1 : Cond.methodLink RL index yX8_text ∈ nt_tbl) (hcs : cells + 2 ≤ 600000 ∧ slots + 163 ≤ 7302250) (hrs : (rest.map fun v => v.category).sum ≤ 8) (d : decode code pc = .ok (.invokevirtual index, 3)) (k : ∀ u : nt_w, nt_isR u (nr + 1) (fun i => if i = nr then (ga 10 7).toNatClampNeg else ln i) → nt_LW s u → nt_apW u w2 → nt_a u 0 = nt_a w1 0 → nt_LG p l e s m below meth c b (cells + 2) (slots + 163) (pc + 3) lv (.int (ga 6 3 + 1 - 1) :: rest) u gb w2 g2) : nt_LG p l e s m below meth c b cells slots pc lv (.ref (nt_a w1 0) :: rest) w1 g1 w2 g2 := by
  intro H locs ls h1 h2 h3 h4 hS hl
  have hw : nt_isX w1 := ⟨nr, ln, hR0⟩
  have hn : 0 < nt_n w1 := nt_lX hw (Nat.le_of_ble_eq_true rfl)
  have he : (nt_W w1 g1)[0]? = some (nt_a w1 0, .inr (7, [.ref (nt_a w1 1), .ref (nt_a w1 6), .ref (nt_a w1 10), .ref (nt_a w1 14), .ref (nt_a w1 21), .ref (nt_a w1 28), .ref (nt_a w1 35), .ref (nt_a w1 43), .int (g1 0 8)])) := by rw [nt_W_at hn, nt_e0 hw]
  have hFc := nt_Lfree h3 hS
  refine va_calli (va_runV (As := []) (rest := rest) (C := RX8) ⟨X.1, X.2.1, X.2.2.1, X.2.2.2.1, X.2.2.2.2.1⟩ (cNt_textY hR0 hnf hrd hs0 hs9 hnf1 hi hnr hem H.size) (cwV 0 X.2.2.2.2.1 (nt_Lgood wd_404 hw1 wd_402 wd_403 wd_1) rfl rfl rfl ⟨rfl, hd_X8_text⟩ ⟨Nat.le_of_ble_eq_true rfl, Nat.le_of_ble_eq_true rfl⟩) ⟨nt_blind, va_recv hW.1 h1 (ci := 7) rfl he, nt_Lpre hW h1 h3 hS _⟩ rfl rfl hl.1 rfl (lv_room hrs) d hcs) hS (fun q _ h => hFc q h) hFc (fun r1 u t H1 locs1 ht hvm hw9 hB hz1 hk1 hS1 => ?_)
  obtain ⟨rfl, hu1, hu2, hu3, hu4, hu5, hu6⟩ := hw9
  obtain ⟨hP1, hD1⟩ := hB
  rw [ht] at hP1
  have hLu : nt_LW s u := by
    unfold nt_LW
    rw [hu2, hu3, hu4, hu5]
    exact hW
  have hapu : nt_apW u w2 := by
    intro i j hi hj e9
    have hq := hD1.2 i _ (nt_W_at hi)
    have hq2 := (h2 j _ (nt_W_at (g := g2) hj)).lt
    rcases hq with ⟨k2, e2, h⟩ | h
    · obtain ⟨b1, b2⟩ := nt_W_inv h
      exact hap k2 j b1 hj ((congrArg Prod.fst b2).symm.trans e9)
    · have h : H.size ≤ nt_a u i := h
      have hq2 : nt_a w2 j < H.size := hq2
      omega
  exact k u hu1 hLu hapu (hu6 0 hn) H1 locs1 ls hP1 (nt_Lkept hap h2 hk1) (hD1.weaken (fun _ q _ h => hFc q.1 h)) h4 hS1 hl
end LG
