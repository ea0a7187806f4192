theorem nt_pe {α : Type} {v r : α} {g g0 : nt_T} (h : v = r) (hg : g = g0) : (v, g) = (r, g0) := by rw [h, hg]
theorem nt_room {dp D mL : Nat} (h : dp + 1 ≤ D) (hm : mL ≤ 41) : dp + 1 ≤ (nt_rm D).frames ∧ 8 + (mL + 11) + 60 * dp ≤ (nt_rm D).locals := ⟨h, by show _ ≤ 60 * D; omega⟩
theorem nt_lR {w : nt_w} {nr : Nat} {ln : Nat → Nat} (hR : nt_isR w nr ln) {i : Nat} (hi : i < nr) : 47 + 2 * i < nt_n w := by
  obtain ⟨cI, cR, h1, h2, h3, h4⟩ := hR
  omega
theorem nt_lC {w : nt_w} {nr : Nat} {ln : Nat → Nat} (hR : nt_isR w nr ln) {i : Nat} (hi : i < nr) : 48 + 2 * i < nt_n w := by
  obtain ⟨cI, cR, h1, h2, h3, h4⟩ := hR
  omega
theorem nt_eR {w : nt_w} {nr : Nat} {ln : Nat → Nat} (hR : nt_isR w nr ln) {i : Nat} (_hi : i < nr) : nt_E w (47 + 2 * i) = fun f => .inr (2, [.ref (nt_a w (48 + 2 * i)), .int (f 1), .int (f 2)]) := by
  obtain ⟨cI, cR, h1, h2, h3, h4⟩ := hR
  rw [h3 _ (by omega), show 47 + 2 * i = 2 * i + 47 by omega, show 48 + 2 * i = 2 * i + 48 by omega]
  funext f
  show (if 2 * i % 2 = 0 then _ else _) = _
  rw [if_pos (by omega)]
theorem nt_eC {w : nt_w} {nr : Nat} {ln : Nat → Nat} (hR : nt_isR w nr ln) {i : Nat} (_hi : i < nr) : nt_E w (48 + 2 * i) = fun f => .inl (nt_cI w, ln i, .inl f) := by
  obtain ⟨cI, cR, h1, h2, h3, h4⟩ := hR
  have hc : nt_cI w = cI := by simp [nt_cI, h1]
  rw [h3 _ (by omega), hc, show 48 + 2 * i = (2 * i + 1) + 47 by omega]
  funext f
  show (if (2 * i + 1) % 2 = 0 then _ else _) = _
  rw [if_neg (by omega), show (2 * i + 1) / 2 = i by omega]
def nt_Mr (l : Launch) (w : nt_w) (y : MethodName) (cc : ByteArray) (nL : Nat) (ret : Option FieldType) (d : Nat) (av : List Value) (g : nt_T) (k : Nat) : Prop := ∀ sz : Nat, Met l y (nt_ws y cc nL ret) (nt_rm d) (va_Pc av (nt_P w g sz)) (va_Qr (fun (u : nt_T) => u = g) (fun u a t => a = nt_a w k ∧ nt_B w u t) (va_A (nt_W w g) sz)) 0 0 (va_A (nt_W w g) sz)
abbrev nt_Qr (w : nt_w) (A : Nat → Prop) (below : List Frame) (args : Array Value) (s : State) (k : Nat) (g2 : nt_T) : State → Prop := MQ below (va_Qr (fun (u : nt_T) => u = g2) (fun u a t => a = nt_a w k ∧ nt_B w u t) A) args s 0 0 A
section NV
variable {p : Program} {l : Launch} {e : Env} {R : Room} {s : State} {m : MethodId} {args : Array Value} {below : List Frame} {meth : Method} {c : Code} {cells slots : Nat} {Q : State → Prop}
variable {cc : ByteArray} {nL : Nat} {own : String} {ret : Option FieldType} {w : nt_w} {A : Nat → Prop} {g : nt_T} {pc : Nat} {lv : List (Nat × Value)} {rest : List Value}
theorem nt_ifnonnull (X : nt_X cc nL own ret w A p s m args meth c) {off : Int} {x : Nat} (tgt : Nat) (d : decode cc pc = .ok (.ifnonnull off, 3)) (ht : (pc : Int) + off = (tgt : Int)) (k : nt_G p l e R s m args below meth c w A cells slots Q nL tgt lv rest g) : nt_G p l e R s m args below meth c w A cells slots Q nL pc lv (.ref x :: rest) g := fun H locs ls hP hD hS hl => lv_ifnonnull X.1 X.2.1 d ht (k H locs ls hP hD hS hl)
theorem nt_aald (X : nt_X cc nL own ret w A p s m args meth c) {nr : Nat} {ln : Nat → Nat} (hR : nt_isR w nr ln) {i : Int32} (hi : nt_in i 6 = true) (hn : i.toNatClampNeg < nr) (d : decode cc pc = .ok (.aaload, 1)) (k : nt_G p l e R s m args below meth c w A cells slots Q nL (pc + 1) lv (.ref (nt_a w (47 + 2 * i.toNatClampNeg)) :: rest) g) : nt_G p l e R s m args below meth c w A cells slots Q nL pc lv (.int i :: .ref (nt_a w 7) :: rest) g := by
  intro H locs ls hP hD hS hl
  have hw : nt_isX w := ⟨nr, ln, hR⟩
  obtain ⟨cI, cR, h1, h2, h3, h4⟩ := hR
  have he : (nt_W w g)[7]? = some (nt_a w 7, .inl (cR, 6, .inr (.inr (.inr (.inr (fun i => if i < nr then some (nt_a w (47 + 2 * i)) else none)))))) := by
    rw [nt_W_at (nt_lX hw (by omega)), h3 7 (by omega)]
    rfl
  refine va_aldq X.1 X.2.1 X.2.2.2.2.2.2.2.1 hP 7 1 he (by rw [h1]; rfl) (nt_in_vp hi) d ?_
  have e : va_rf (if i.toNatClampNeg < nr then some (nt_a w (47 + 2 * i.toNatClampNeg)) else none) = .ref (nt_a w (47 + 2 * i.toNatClampNeg)) := by
    rw [if_pos hn]
    rfl
  rw [e]
  exact (k H locs ls hP hD hS hl)
theorem nt_aret {nm : String} (X : nt_X cc nL own (some (.object nm)) w A p s m args meth c) {k0 : Nat} (d : decode cc pc = .ok (.areturn, 1)) : nt_G p l e R s m args below meth c w A 0 0 (nt_Qr w A below args s k0 g) nL pc lv [.ref (nt_a w k0)] g := by
  intro H locs ls hP hD hS hl
  have hlocks := X.2.2.2.2.2.1
  exact W.aret X.1 X.2.1 X.2.2.2.2.2.2.1 (Or.inl ⟨_, rfl⟩) (Or.inr ⟨_, rfl⟩) (fun t ht hW => ⟨⟨g, nt_a w k0, rfl, rfl, rfl, by rw [nt_B, ht]; exact hP⟩, hS.F ht⟩) hS.2.2 d
theorem nt_Mr_of {y : MethodName} {dp : Nat} {av : List Value} {k0 : Nat} (hy : plainName y.cls = true) (hlen : (lg_sl av).length ≤ nL) (body : ∀ (p : Program) (e : Env) (s : State) (m : MethodId) (args : Array Value) (below : List Frame) (meth : Method) (c : Code) (A : Nat → Prop), nt_X cc nL y.cls ret w A p s m args meth c → nt_G p l e (nt_rm dp) s m args below meth c w A 0 0 (nt_Qr w A below args s k0 g) nL 0 (lv_args 0 av) [] g) : nt_Mr l w y cc nL ret dp av g k0 := by
  intro sz
  refine Met.ofW (cc := cc) (maxL := nL) (ret := ret) hy rfl ?_
  intro p e s m args below meth c s₁ B hml hv
  obtain ⟨rfl, hsz, hP, hK, hD0, hZ⟩ := hv
  have hts := atoms_spec (ws := nt_ws y cc nL ret) B.pre
  have hown : s.vm.findClass y.cls = some m.cls := findClass_of_methodNamed B.named
  subst hsz
  have hX : nt_X cc nL y.cls ret w (va_A (nt_W w g) s.heap.size) p s m av.toArray meth c := ⟨B.exec, B.bytes, hml, hown, fun q hq => hts q (List.mem_cons_of_mem _ hq), B.notSynchronized, B.returns, hK, fun q h => Or.inr h, hZ⟩
  have hl := lv_entry av (n := nL) hlen
  rw [lg_entry_eq]
  exact body p e s m av.toArray below meth c _ hX s.heap [] _ hP (hD0.self) va_S.rf hl
theorem nt_cVNr (X : nt_X cc nL own ret w A p s m args meth c) {y : MethodName} {bytes : ByteArray} {maxL dp index : Nat} {rt : Option FieldType} {As stk : List Value} {kr : Nat} {host : String} (k0 : Nat) {C : String} {T : u_T} {N ci : Nat} {tp : (Nat → Int32) → List Value} (hn : k0 < nt_n w) (hE : nt_E w k0 = fun f => .inr (ci, tp f)) (hc : vwCl[ci]? = some (C, T, N)) (hM : nt_Mr l w y bytes maxL rt dp (.ref (nt_a w k0) :: As) g kr) (hw0 : Cond.code y bytes maxL rt ∈ nt_tbl) (hw1 : (own, index, y, host) ∈ nt_nestM) (hw2 : Cond.instanceMethod y ∈ nt_tbl) (hw3 : Cond.selects C y y ∈ nt_tbl) (hw4 : Cond.initialized y.cls ∈ nt_tbl) (hd : y.cls ≠ "java/lang/invoke/MethodHandle" ∧ y.cls ≠ "java/lang/invoke/VarHandle" ∧ (parseMethodDescriptor y.desc).map (fun d => d.parameters.length) = some As.length) (hR : dp + 1 ≤ R.frames ∧ 8 + (maxL + 11) + 60 * dp ≤ R.locals) (hcs : cells ≤ R.cells ∧ slots ≤ R.slots) (hrs : (rest.map fun v => v.category).sum ≤ 8) (hst : stk = As.reverse ++ .ref (nt_a w k0) :: rest) (d : decode cc pc = .ok (.invokevirtual index, 3)) (k : nt_G p l e R s m args below meth c w A cells slots Q nL (pc + 3) lv (.ref (nt_a w kr) :: rest) g) : nt_G p l e R s m args below meth c w A cells slots Q nL pc lv stk g := by
  intro H locs ls hP hD hS hl
  subst hst
  have he : (nt_W w g)[k0]? = some (nt_a w k0, .inr (ci, tp (g k0))) := by rw [nt_W_at hn, hE]
  have hFc := nt_sub_A X hD hS
  refine va_callr (va_runVN (As := As) (rest := rest) (C := C) ⟨X.1, X.2.1, X.2.2.1, X.2.2.2.1, X.2.2.2.2.1⟩ (hM H.size) ⟨va_cnB As.length X.2.2.2.2.1 (nt_ws_good hw0) rfl rfl rfl (X.2.2.2.2.2.2.2.2.2.1.2 _ hw1) (X.2.2.2.2.1 _ hw4) hd hR, X.2.2.2.2.1 _ hw2, X.2.2.2.2.1 _ hw3⟩ ⟨nt_blind, va_recv X.2.2.2.2.2.2.2.1 hP hc he, nt_pre X hP hD hS _⟩ rfl rfl hl.1 rfl (lv_room hrs) d hcs) hS (fun q _ h => hFc q h) hFc (fun u ra t H1 locs1 ht hvm hw hB hz1 hk1 hS1 => ?_)
  subst hw
  obtain ⟨rfl, hB⟩ := hB
  refine k H1 locs1 ls ?_ (nt_W_dom hD) hS1 hl
  rw [← ht]
  exact hB
def nt_ch (i : Nat) (k : Int32) : Int32 := (nt_byt.getD i []).getD k.toNatClampNeg 0
theorem nt_ldcS0 (X : nt_X cc nL own ret w A p s m args meth c) (ho : own = RX1) (d : decode cc pc = .ok (.ldc 25, 2)) (k : nt_G p l e R s m args below meth c w A cells slots Q nL (pc + 2) lv (.ref (w.2.2.1 (1 + 0)) :: rest) g) : nt_G p l e R s m args below meth c w A cells slots Q nL pc lv rest g := fun H locs ls hP hD hS hl => va_ldcS X.1 X.2.1 X.2.2.2.1 (by rw [ho]; exact X.2.2.2.2.2.2.2.2.2.2.2.2.2.2.2.1) d (k H locs ls hP hD hS hl)
theorem nt_ldcS1 (X : nt_X cc nL own ret w A p s m args meth c) (ho : own = RX1) (d : decode cc pc = .ok (.ldc 104, 2)) (k : nt_G p l e R s m args below meth c w A cells slots Q nL (pc + 2) lv (.ref (w.2.2.1 (1 + 1)) :: rest) g) : nt_G p l e R s m args below meth c w A cells slots Q nL pc lv rest g := fun H locs ls hP hD hS hl => va_ldcS X.1 X.2.1 X.2.2.2.1 (by rw [ho]; exact X.2.2.2.2.2.2.2.2.2.2.2.2.2.2.2.2.1) d (k H locs ls hP hD hS hl)
theorem nt_ldcS2 (X : nt_X cc nL own ret w A p s m args meth c) (ho : own = RX1) (d : decode cc pc = .ok (.ldc 99, 2)) (k : nt_G p l e R s m args below meth c w A cells slots Q nL (pc + 2) lv (.ref (w.2.2.1 (1 + 2)) :: rest) g) : nt_G p l e R s m args below meth c w A cells slots Q nL pc lv rest g := fun H locs ls hP hD hS hl => va_ldcS X.1 X.2.1 X.2.2.2.1 (by rw [ho]; exact X.2.2.2.2.2.2.2.2.2.2.2.2.2.2.2.2.2) d (k H locs ls hP hD hS hl)
theorem nt_sval (X : nt_X cc nL own ret w A p s m args meth c) {i index : Nat} (hi : i < 3) (hw : Cond.fieldLink own index "java/lang/String" "value" "[B" ∈ nt_tbl) (d : decode cc pc = .ok (.getfield index, 3)) (k : nt_G p l e R s m args below meth c w A cells slots Q nL (pc + 3) lv (.ref (w.2.2.1 (4 + i)) :: rest) g) : nt_G p l e R s m args below meth c w A cells slots Q nL pc lv (.ref (w.2.2.1 (1 + i)) :: rest) g := fun H locs ls hP hD hS hl => vk_getf X.1 X.2.1 (X.2.2.2.2.2.2.2.2.2.2.2.2.2.2.1.1 i hi).2.2.1 hS X.2.2.2.1 (X.2.2.2.2.1 _ hw) (fun _ h => h) d (k H locs ls hP hD hS hl)
theorem nt_scod (X : nt_X cc nL own ret w A p s m args meth c) {i index : Nat} (hi : i < 3) (hw : Cond.fieldLink own index "java/lang/String" "coder" "B" ∈ nt_tbl) (d : decode cc pc = .ok (.getfield index, 3)) (k : nt_G p l e R s m args below meth c w A cells slots Q nL (pc + 3) lv (.int 0 :: rest) g) : nt_G p l e R s m args below meth c w A cells slots Q nL pc lv (.ref (w.2.2.1 (1 + i)) :: rest) g := fun H locs ls hP hD hS hl => vk_getf X.1 X.2.1 (X.2.2.2.2.2.2.2.2.2.2.2.2.2.2.1.1 i hi).2.1 hS X.2.2.2.1 (X.2.2.2.2.1 _ hw) (fun _ h => h) d (k H locs ls hP hD hS hl)
theorem nt_slen (X : nt_X cc nL own ret w A p s m args meth c) {i : Nat} (hi : i < 3) (d : decode cc pc = .ok (.arraylength, 1)) (k : nt_G p l e R s m args below meth c w A cells slots Q nL (pc + 1) lv (.int (Int32.ofNat (nt_len.getD i 0)) :: rest) g) : nt_G p l e R s m args below meth c w A cells slots Q nL pc lv (.ref (w.2.2.1 (4 + i)) :: rest) g := fun H locs ls hP hD hS hl => va_tlen X.1 X.2.1 (X.2.2.2.2.2.2.2.2.2.2.2.2.2.2.1.1 i hi).2.2.2 hS rfl d (k H locs ls hP hD hS hl)
theorem nt_sbyt (X : nt_X cc nL own ret w A p s m args meth c) {i : Nat} (hi : i < 3) {j : Int32} (hj : nt_in j (nt_len.getD i 0) = true) (d : decode cc pc = .ok (.baload, 1)) (k : nt_G p l e R s m args below meth c w A cells slots Q nL (pc + 1) lv (.int (nt_ch i j) :: rest) g) : nt_G p l e R s m args below meth c w A cells slots Q nL pc lv (.int j :: .ref (w.2.2.1 (4 + i)) :: rest) g := fun H locs ls hP hD hS hl => va_tb X.1 X.2.1 (X.2.2.2.2.2.2.2.2.2.2.2.2.2.2.1.1 i hi).2.2.2 hS (nt_in_vp hj) rfl d (k H locs ls hP hD hS hl)
theorem nt_gcs (X : nt_X cc nL own ret w A p s m args meth c) {index : Nat} (hw : Cond.fieldLink own index "java/lang/String" "COMPACT_STRINGS" "Z" ∈ nt_tbl) (d : decode cc pc = .ok (.getstatic index, 3)) (k : nt_G p l e R s m args below meth c w A cells slots Q nL (pc + 3) lv (.int 1 :: rest) g) : nt_G p l e R s m args below meth c w A cells slots Q nL pc lv rest g := fun H locs ls hP hD hS hl => va_gets X.1 X.2.1 X.2.2.2.2.2.2.2.2.2.2.2.2.1 hS X.2.2.2.1 (X.2.2.2.2.1 _ hw) (fun _ h => h) d (k H locs ls hP hD hS hl)
theorem nt_gfm (X : nt_X cc nL own ret w A p s m args meth c) {index : Nat} (hw : Cond.fieldLink own index "jdk/internal/util/Preconditions" "SIOOBE_FORMATTER" "Ljava/util/function/BiFunction;" ∈ nt_tbl) (d : decode cc pc = .ok (.getstatic index, 3)) (k : nt_G p l e R s m args below meth c w A cells slots Q nL (pc + 3) lv (w.2.2.2.1 :: rest) g) : nt_G p l e R s m args below meth c w A cells slots Q nL pc lv rest g := fun H locs ls hP hD hS hl => va_gets X.1 X.2.1 X.2.2.2.2.2.2.2.2.2.2.2.2.2.1 hS X.2.2.2.1 (X.2.2.2.2.1 _ hw) (fun _ h => h) d (k H locs ls hP hD hS hl)
theorem nt_cKi (X : nt_X cc nL own ret w A p s m args meth c) {y : MethodName} {bytes : ByteArray} {maxL dp index : Nat} {rt : Option FieldType} {As stk : List Value} {r : Int32} {g2 : nt_T} {i : Nat} (hi : i < 3) (hM : nt_Mi l w y bytes maxL rt dp (.ref (w.2.2.1 (1 + i)) :: As) g r g2) (hw0 : Cond.code y bytes maxL rt ∈ nt_tbl) (hw1 : Cond.methodLink own index y ∈ nt_tbl) (hw2 : Cond.instanceMethod y ∈ nt_tbl) (hw3 : Cond.selects "java/lang/String" y y ∈ nt_tbl) (hw4 : Cond.initialized "java/lang/String" ∈ nt_tbl) (hC : y.cls = "java/lang/String") (hd : y.cls ≠ "java/lang/invoke/MethodHandle" ∧ y.cls ≠ "java/lang/invoke/VarHandle" ∧ (parseMethodDescriptor y.desc).map (fun d => d.parameters.length) = some As.length) (hR : dp + 1 ≤ R.frames ∧ 8 + (maxL + 11) + 60 * dp ≤ R.locals) (hcs : cells ≤ R.cells ∧ slots ≤ R.slots) (hrs : (rest.map fun v => v.category).sum ≤ 8) (hst : stk = As.reverse ++ .ref (w.2.2.1 (1 + i)) :: rest) (d : decode cc pc = .ok (.invokevirtual index, 3)) (k : nt_G p l e R s m args below meth c w A cells slots Q nL (pc + 3) lv (.int r :: rest) g2) : nt_G p l e R s m args below meth c w A cells slots Q nL pc lv stk g := by
  intro H locs ls hP hD hS hl
  subst hst
  have hFc := nt_sub_A X hD hS
  have hGd : GoodIn nt_tbl (wsV own index "java/lang/String" y (nt_ws y bytes maxL rt)) := by
    intro q hq
    rcases List.mem_append.mp hq with h | h
    · have hm : q ∈ nt_tbl := by
        rcases List.mem_cons.mp h with rfl | h
        · exact hw1
        rcases List.mem_cons.mp h with rfl | h
        · exact hw2
        rcases List.mem_cons.mp h with rfl | h
        · exact hw3
        rcases List.mem_cons.mp h with rfl | h
        · exact hw4
        cases h
      exact ⟨hm, good_of_word (nt_good q hm)⟩
    · exact nt_ws_good hw0 q h
  refine va_calli (va_runV (As := As) (rest := rest) (C := "java/lang/String") ⟨X.1, X.2.1, X.2.2.1, X.2.2.2.1, X.2.2.2.2.1⟩ (hM H.size) (cwV As.length X.2.2.2.2.1 hGd rfl rfl rfl ⟨hC, hd⟩ hR) ⟨nt_blind, vk_recv X.2.2.2.2.2.2.2.2.2.2.2.2.2.2.1 hi hS, nt_pre X hP hD hS _⟩ rfl rfl hl.1 rfl (lv_room hrs) d hcs) hS (fun q _ h => hFc q h) hFc (fun r1 u t H1 locs1 ht hvm hw hB hz1 hk1 hS1 => ?_)
  obtain ⟨rfl, rfl⟩ := hw
  refine k H1 locs1 ls ?_ (nt_W_dom hD) hS1 hl
  rw [← ht]
  exact hB
theorem nt_cKv (X : nt_X cc nL own ret w A p s m args meth c) {y : MethodName} {bytes : ByteArray} {maxL dp index : Nat} {rt : Option FieldType} {As stk : List Value} {g2 : nt_T} {i : Nat} (hi : i < 3) (hM : nt_Mv l w y bytes maxL rt dp (.ref (w.2.2.1 (1 + i)) :: As) g g2) (hw0 : Cond.code y bytes maxL rt ∈ nt_tbl) (hw1 : Cond.methodLink own index y ∈ nt_tbl) (hw2 : Cond.instanceMethod y ∈ nt_tbl) (hw3 : Cond.selects "java/lang/String" y y ∈ nt_tbl) (hw4 : Cond.initialized "java/lang/String" ∈ nt_tbl) (hC : y.cls = "java/lang/String") (hd : y.cls ≠ "java/lang/invoke/MethodHandle" ∧ y.cls ≠ "java/lang/invoke/VarHandle" ∧ (parseMethodDescriptor y.desc).map (fun d => d.parameters.length) = some As.length) (hR : dp + 1 ≤ R.frames ∧ 8 + (maxL + 11) + 60 * dp ≤ R.locals) (hcs : cells ≤ R.cells ∧ slots ≤ R.slots) (hrs : (rest.map fun v => v.category).sum ≤ 8) (hst : stk = As.reverse ++ .ref (w.2.2.1 (1 + i)) :: rest) (d : decode cc pc = .ok (.invokevirtual index, 3)) (k : nt_G p l e R s m args below meth c w A cells slots Q nL (pc + 3) lv (rest) g2) : nt_G p l e R s m args below meth c w A cells slots Q nL pc lv stk g := by
  intro H locs ls hP hD hS hl
  subst hst
  have hFc := nt_sub_A X hD hS
  have hGd : GoodIn nt_tbl (wsV own index "java/lang/String" y (nt_ws y bytes maxL rt)) := by
    intro q hq
    rcases List.mem_append.mp hq with h | h
    · have hm : q ∈ nt_tbl := by
        rcases List.mem_cons.mp h with rfl | h
        · exact hw1
        rcases List.mem_cons.mp h with rfl | h
        · exact hw2
        rcases List.mem_cons.mp h with rfl | h
        · exact hw3
        rcases List.mem_cons.mp h with rfl | h
        · exact hw4
        cases h
      exact ⟨hm, good_of_word (nt_good q hm)⟩
    · exact nt_ws_good hw0 q h
  refine va_callv (va_runV (As := As) (rest := rest) (C := "java/lang/String") ⟨X.1, X.2.1, X.2.2.1, X.2.2.2.1, X.2.2.2.2.1⟩ (hM H.size) (cwV As.length X.2.2.2.2.1 hGd rfl rfl rfl ⟨hC, hd⟩ hR) ⟨nt_blind, vk_recv X.2.2.2.2.2.2.2.2.2.2.2.2.2.2.1 hi hS, nt_pre X hP hD hS _⟩ rfl rfl hl.1 rfl (lv_room hrs) d hcs) hS (fun q _ h => hFc q h) hFc (fun u t H1 locs1 ht hvm hw hB hz1 hk1 hS1 => ?_)
  subst hw
  refine k H1 locs1 ls ?_ (nt_W_dom hD) hS1 hl
  rw [← ht]
  exact hB
end NV
