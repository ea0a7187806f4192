def nt_push (w : nt_w) (q1 q2 len : Nat) : nt_w := (w.1, w.2.1, w.2.2.1, w.2.2.2.1, nt_n w + 2, (fun k => if k = nt_n w then q1 else if k = nt_n w + 1 then q2 else nt_a w k), (fun k f => if k = nt_n w then .inr (2, [.ref q2, .int (f 1), .int (f 2)]) else if k = nt_n w + 1 then .inl (nt_cI w, len, .inl f) else nt_E w k f))
def nt_pg (w : nt_w) (g : nt_T) (p t : Int32) (row : Nat → Int32) : nt_T := fun k => if k = nt_n w then (fun j => if j = 1 then p else if j = 2 then t else 0) else if k = nt_n w + 1 then row else g k
theorem nt_push_a {w : nt_w} {q1 q2 len k : Nat} (h : k < nt_n w) : nt_a (nt_push w q1 q2 len) k = nt_a w k := by
  show (if k = nt_n w then q1 else if k = nt_n w + 1 then q2 else nt_a w k) = _
  rw [if_neg (by omega), if_neg (by omega)]
theorem nt_push_E {w : nt_w} {q1 q2 len k : Nat} (h : k < nt_n w) : nt_E (nt_push w q1 q2 len) k = nt_E w k := by
  funext f
  show (if k = nt_n w then _ else if k = nt_n w + 1 then _ else nt_E w k f) = _
  rw [if_neg (by omega), if_neg (by omega)]
theorem nt_push_W {w : nt_w} {g : nt_T} {q1 q2 len : Nat} {p t : Int32} {row : Nat → Int32} : nt_W (nt_push w q1 q2 len) (nt_pg w g p t row) = nt_W w g ++ [(q1, .inr (2, [.ref q2, .int p, .int t])), (q2, .inl (nt_cI w, len, .inl row))] := by
  have hr : List.range (nt_n w + 2) = List.range (nt_n w) ++ [nt_n w, nt_n w + 1] := by simp [List.range_succ]
  show (List.range (nt_n w + 2)).map _ = (List.range (nt_n w)).map _ ++ _
  rw [hr, List.map_append]
  congr 1
  · apply List.map_congr_left
    intro k hk
    have hk := List.mem_range.mp hk
    rw [nt_push_a hk, nt_push_E hk]
    have e : nt_pg w g p t row k = g k := by
      show (if k = nt_n w then _ else if k = nt_n w + 1 then row else g k) = _
      rw [if_neg (by omega), if_neg (by omega)]
    rw [e]
  · have a1 : nt_a (nt_push w q1 q2 len) (nt_n w) = q1 := by
      show (if nt_n w = nt_n w then q1 else _) = _
      rw [if_pos rfl]
    have a2 : nt_a (nt_push w q1 q2 len) (nt_n w + 1) = q2 := by
      show (if nt_n w + 1 = nt_n w then q1 else if nt_n w + 1 = nt_n w + 1 then q2 else _) = _
      rw [if_neg (by omega), if_pos rfl]
    have e1 : nt_E (nt_push w q1 q2 len) (nt_n w) (nt_pg w g p t row (nt_n w)) = .inr (2, [.ref q2, .int p, .int t]) := by
      show (if nt_n w = nt_n w then _ else _) = _
      rw [if_pos rfl]
      have e : nt_pg w g p t row (nt_n w) = (fun j => if j = 1 then p else if j = 2 then t else 0) := by
        show (if nt_n w = nt_n w then _ else _) = _
        rw [if_pos rfl]
      rw [e]
      rfl
    have e2 : nt_E (nt_push w q1 q2 len) (nt_n w + 1) (nt_pg w g p t row (nt_n w + 1)) = .inl (nt_cI w, len, .inl row) := by
      show (if nt_n w + 1 = nt_n w then _ else if nt_n w + 1 = nt_n w + 1 then _ else _) = _
      rw [if_neg (by omega), if_pos rfl]
      have e : nt_pg w g p t row (nt_n w + 1) = row := by
        show (if nt_n w + 1 = nt_n w then _ else if nt_n w + 1 = nt_n w + 1 then row else _) = _
        rw [if_neg (by omega), if_pos rfl]
      rw [e]
    show [(nt_a (nt_push w q1 q2 len) (nt_n w), _), (nt_a (nt_push w q1 q2 len) (nt_n w + 1), _)] = _
    rw [a1, a2, e1, e2]
theorem nt_EX_lay {lay lay' : Nat → Nat} {nr : Nat} {ln : Nat → Nat} {cI cR : ClassId} (N : Nat) (hN : 14 ≤ N) (h : ∀ i, i < N → lay i = lay' i) {k : Nat} (h1 : 1 ≤ k) (h2 : k ≤ 13) (h7 : k ≠ 7) : nt_EX lay nr ln cI cR k = nt_EX lay' nr ln cI cR k := by
  funext f
  rcases (show k = 1 ∨ k = 2 ∨ k = 3 ∨ k = 4 ∨ k = 5 ∨ k = 6 ∨ k = 8 ∨ k = 9 ∨ k = 10 ∨ k = 11 ∨ k = 12 ∨ k = 13 by omega) with rfl | rfl | rfl | rfl | rfl | rfl | rfl | rfl | rfl | rfl | rfl | rfl <;> simp only [nt_EX] <;> (try rw [h 2 (by omega), h 3 (by omega), h 4 (by omega), h 5 (by omega)]) <;> (try rw [h 7 (by omega), h 8 (by omega), h 9 (by omega)]) <;> (try rw [h 11 (by omega), h 12 (by omega), h 13 (by omega)])
theorem nt_push_D {w : nt_w} (hw : nt_isD w) (q1 q2 len : Nat) : nt_isD (nt_push w q1 q2 len) := by
  refine ⟨hw.1, Nat.le_trans hw.2.1 (Nat.le_add_right _ 2), fun k h1 h2 h7 => ?_, hw.2.2.2⟩
  have hk : k < nt_n w := Nat.lt_of_lt_of_le (by omega) hw.2.1
  rw [nt_push_E hk, hw.2.2.1 k h1 h2 h7]
  exact nt_EX_lay (nt_n w) hw.2.1 (fun i hi => (nt_push_a hi).symm) h1 h2 h7
/-- the row of texts becomes rf -/
def nt_w7 (w : nt_w) (cR : ClassId) (rf : Nat → Option Nat) : nt_w := (w.1, w.2.1, w.2.2.1, w.2.2.2.1, nt_n w, nt_a w, (fun k => if k = 7 then (fun _ => .inl (cR, 6, .inr (.inr (.inr (.inr rf))))) else nt_E w k))
theorem nt_w7_E {w : nt_w} {cR : ClassId} {rf : Nat → Option Nat} {k : Nat} (h : k ≠ 7) : nt_E (nt_w7 w cR rf) k = nt_E w k := by
  show (if k = 7 then _ else nt_E w k) = _
  rw [if_neg h]
theorem nt_w7_D {w : nt_w} (hw : nt_isD w) (cR : ClassId) (rf : Nat → Option Nat) : nt_isD (nt_w7 w cR rf) := by
  refine ⟨hw.1, hw.2.1, fun k h1 h2 h7 => ?_, hw.2.2.2⟩
  rw [nt_w7_E h7]
  exact hw.2.2.1 k h1 h2 h7
theorem nt_w7_set {w : nt_w} {g : nt_T} {cR : ClassId} {rf : Nat → Option Nat} (h : 7 < nt_n w) : (nt_W w g).set 7 (nt_a w 7, .inl (cR, 6, .inr (.inr (.inr (.inr rf))))) = nt_W (nt_w7 w cR rf) g := by
  apply List.ext_getElem?
  intro i
  rw [List.getElem?_set]
  by_cases hik : 7 = i
  · subst hik
    rw [if_pos rfl, nt_W_at (w := nt_w7 w cR rf) h]
    simp [nt_W, h]
    exact ⟨rfl, rfl⟩
  · rw [if_neg hik]
    by_cases hi : i < nt_n w
    · rw [nt_W_at hi, nt_W_at (w := nt_w7 w cR rf) hi, nt_w7_E (Ne.symm hik)]
      rfl
    · have hi2 : ¬ i < nt_n (nt_w7 w cR rf) := hi
      simp [nt_W, hi, hi2]
theorem nt_w7_dom {w : nt_w} {g g' : nt_T} {A : Nat → Prop} {cR : ClassId} {rf : Nat → Option Nat} (h : va_D A (nt_W w g)) : va_D A (nt_W (nt_w7 w cR rf) g') := by
  refine ⟨fun i j p q hi hj e => ?_, fun k q hk => ?_⟩
  · obtain ⟨hi1, rfl⟩ := nt_W_inv hi
    obtain ⟨hj1, rfl⟩ := nt_W_inv hj
    exact h.1 i j _ _ (nt_W_at (w := w) hi1) (nt_W_at (w := w) hj1) e
  · obtain ⟨hk1, rfl⟩ := nt_W_inv hk
    exact h.2 k (nt_a w k, nt_E w k (g k)) (nt_W_at (w := w) hk1)
def nt_rmc (d mc ms : Nat) : Room := { frames := d, cells := mc, slots := ms, locals := 60 * d }
/-- a contract that leaves another world, at the same addresses -/
def nt_Mi2 (l : Launch) (w : nt_w) (y : MethodName) (cc : ByteArray) (nL : Nat) (ret : Option FieldType) (d : Nat) (av : List Value) (g : nt_T) (r : Int32) (w2 : nt_w) (g2 : nt_T) : Prop := ∀ sz : Nat, Met l y (nt_ws y cc nL ret) (nt_rm d) (va_Pc av (nt_P w g sz)) (va_Qi (fun (r' : Int32) (u : nt_T) => r' = r ∧ u = g2) (nt_B w2) (va_A (nt_W w g) sz)) 0 0 (va_A (nt_W w g) sz)
section NY
variable {p : Program} {l : Launch} {e : Env} {R : Room} {s : State} {m : MethodId} {args : Array Value} {below : List Frame} {meth : Method} {c : Code} {cells slots : Nat} {Q : State → Prop}
variable {cc : ByteArray} {nL : Nat} {own : String} {ret : Option FieldType} {w : nt_w} {A : Nat → Prop} {g : nt_T} {pc : Nat} {lv : List (Nat × Value)} {rest : List Value}
theorem nt_Mi2_of {y : MethodName} {dp : Nat} {av : List Value} {r : Int32} {w2 : nt_w} {g2 : nt_T} (hy : plainName y.cls = true) (hlen : (lg_sl av).length ≤ nL) (body : ∀ (p : Program) (e : Env) (s : State) (m : MethodId) (args : Array Value) (below : List Frame) (meth : Method) (c : Code) (A : Nat → Prop), nt_X cc nL y.cls ret w A p s m args meth c → nt_G p l e (nt_rm dp) s m args below meth c w A 0 0 (nt_Qi w2 A below args s r g2) nL 0 (lv_args 0 av) [] g) : nt_Mi2 l w y cc nL ret dp av g r w2 g2 := by
  intro sz
  refine Met.ofW (cc := cc) (maxL := nL) (ret := ret) hy rfl ?_
  intro p e s m args below meth c s₁ B hml hv
  obtain ⟨rfl, hsz, hP, hK, hD0, hZ⟩ := hv
  have hts := atoms_spec (ws := nt_ws y cc nL ret) B.pre
  have hown : s.vm.findClass y.cls = some m.cls := findClass_of_methodNamed B.named
  subst hsz
  have hX : nt_X cc nL y.cls ret w (va_A (nt_W w g) s.heap.size) p s m av.toArray meth c := ⟨B.exec, B.bytes, hml, hown, fun q hq => hts q (List.mem_cons_of_mem _ hq), B.notSynchronized, B.returns, hK, fun q h => Or.inr h, hZ⟩
  have hl := lv_entry av (n := nL) hlen
  rw [lg_entry_eq]
  exact body p e s m av.toArray below meth c _ hX s.heap [] _ hP (hD0.self) va_S.rf hl
/-- rules[size] = rule -/
theorem nt_aast (X : nt_X cc nL own ret w A p s m args meth c) (hw : nt_isD w) {cR : ClassId} {rf : Nat → Option Nat} (h7 : nt_E w 7 = fun _ => .inl (cR, 6, .inr (.inr (.inr (.inr rf))))) (ht : w.2.1[1]? = some (cR, .object RX2)) {kr : Nat} {tp : (Nat → Int32) → List Value} (hkr : kr < nt_n w) (hEr : nt_E w kr = fun f => .inr (2, tp f)) {i : Int32} (hi : nt_in i 6 = true) (d : decode cc pc = .ok (.aastore, 1)) (k : nt_G p l e R s m args below meth c (nt_w7 w cR (va_up rf i.toNatClampNeg (some (nt_a w kr)))) A cells slots Q nL (pc + 1) lv rest g) : nt_G p l e R s m args below meth c w A cells slots Q nL pc lv (.ref (nt_a w kr) :: .int i :: .ref (nt_a w 7) :: rest) g := by
  intro H locs ls hP hD hS hl
  have he : (nt_W w g)[7]? = some (nt_a w 7, .inl (cR, 6, .inr (.inr (.inr (.inr rf))))) := by rw [nt_W_at (nt_lD hw (by omega)), h7]
  have her : (nt_W w g)[kr]? = some (nt_a w kr, .inr (2, tp (g kr))) := by rw [nt_W_at hkr, hEr]
  refine va_astq (r := (RX2, TX2, 3)) X.1 X.2.1 X.2.2.2.2.2.2.2.1 hP hD hS 7 1 kr 2 he ht her rfl (nt_in_vp hi) d (fun H1 locs1 hP1 hD1 hS1 => ?_)
  rw [nt_w7_set (nt_lD hw (by omega))] at hP1 hD1
  exact k H1 locs1 ls hP1 hD1 hS1 hl
end NY
set_option maxRecDepth 100000 in
set_option maxHeartbeats 4000000 in
/-- add(rule), where there is room -/
theorem cTx_add {l : Launch} {w : nt_w} (hw : nt_isD w) {cR : ClassId} {rf : Nat → Option Nat} (h7 : nt_E w 7 = fun _ => .inl (cR, 6, .inr (.inr (.inr (.inr rf))))) (ht : w.2.1[1]? = some (cR, .object RX2)) {kr : Nat} {tp : (Nat → Int32) → List Value} (hkr : kr < nt_n w) (hEr : nt_E w kr = fun f => .inr (2, tp f)) {g : nt_T} (hi : nt_in (g 6 3) 6 = true) (hnf : fTx_isFull g = some 0) : nt_Mi2 l w yX7_add cX7_add 2 (some .int) 5 [.ref (nt_a w 6), .ref (nt_a w kr)] g (g 6 3 + 1 - 1) (nt_w7 w cR (va_up rf (g 6 3).toNatClampNeg (some (nt_a w kr)))) (nt_st g 6 3 (g 6 3 + 1)) := by
  refine nt_Mi2_of (by decide) (Nat.le_of_ble_eq_true rfl) (fun p e s m args below meth c A X => ?_)
  have X : nt_X cX7_add 2 RX7 (some .int) w A p s m args meth c := X
  show nt_G p l e (nt_rm 5) s m args below meth c w A 0 0 (nt_Qi (nt_w7 w cR (va_up rf (g 6 3).toNatClampNeg (some (nt_a w kr)))) A below args s (g 6 3 + 1 - 1) (nt_st g 6 3 (g 6 3 + 1))) 2 0 [(0, .ref (nt_a w 6)), (1, .ref (nt_a w kr))] [] g
  refine nt_aload_n X dX7_add_0 rfl 0 rfl ?_
  refine nt_cVi X (As := []) 6 (nt_lD hw (Nat.le_of_ble_eq_true rfl)) (nt_d6 hw) rfl (cTx_isFull hw hnf) wd_242 wd_240 wd_241 wd_1022 wd_3 rfl hd_X7_isFull ⟨Nat.le_of_ble_eq_true rfl, Nat.le_of_ble_eq_true rfl⟩ ⟨Nat.le_refl 0, Nat.le_refl 0⟩ (Nat.le_of_ble_eq_true rfl) rfl dX7_add_1 ?_
  refine nt_if_eq X 10 dX7_add_4 (by decide) (fun _ => ?_) (fun q => absurd rfl q)
  refine nt_aload_n X dX7_add_10 rfl 0 rfl ?_
  refine nt_get X 6 inX7 (nt_lD hw (Nat.le_of_ble_eq_true rfl)) (nt_d6 hw) rfl (j := 0) (by decide) wd_48 (v := .ref (nt_a w 7)) rfl dX7_add_11 ?_
  refine nt_aload_n X dX7_add_14 rfl 0 rfl ?_
  refine nt_get X 6 inX7 (nt_lD hw (Nat.le_of_ble_eq_true rfl)) (nt_d6 hw) rfl (j := 3) (by decide) wd_51 (v := .int (g 6 3)) rfl dX7_add_15 ?_
  refine nt_aload_n X dX7_add_18 rfl 1 rfl ?_
  refine nt_aast X hw h7 ht hkr hEr hi dX7_add_19 ?_
  have hw2 := nt_w7_D hw cR (va_up rf (g 6 3).toNatClampNeg (some (nt_a w kr)))
  have X : nt_X cX7_add 2 RX7 (some .int) (nt_w7 w cR (va_up rf (g 6 3).toNatClampNeg (some (nt_a w kr)))) A p s m args meth c := X
  refine nt_aload_n X dX7_add_20 rfl 0 rfl ?_
  refine nt_dup X dX7_add_21 rfl ?_
  refine nt_get X 6 inX7 (nt_lD hw2 (Nat.le_of_ble_eq_true rfl)) (nt_d6 hw2) rfl (j := 3) (by decide) wd_51 (v := .int (g 6 3)) rfl dX7_add_22 ?_
  refine nt_iconst X dX7_add_25 nt_ci_1 ?_
  refine nt_iadd X dX7_add_26 ?_
  refine nt_put X 6 inX7 (nt_lD hw2 (Nat.le_of_ble_eq_true rfl)) (nt_d6 hw2) rfl (j := 3) (by decide) wd_51 tyX7 tyX7_ok nmX7 rfl (ty := .int) rfl rfl rfl (fun _ => Nat.le_of_ble_eq_true rfl) (fun _ => rfl) dX7_add_27 ?_
  refine nt_aload_n X dX7_add_30 rfl 0 rfl ?_
  refine nt_get X 6 inX7 (nt_lD hw2 (Nat.le_of_ble_eq_true rfl)) (nt_d6 hw2) rfl (j := 3) (by decide) wd_51 (v := .int (g 6 3 + 1)) rfl dX7_add_31 ?_
  refine nt_iconst X dX7_add_34 nt_ci_1 ?_
  refine nt_isub X dX7_add_35 ?_
  exact nt_iret X dX7_add_36 rfl
def nt_cR (w : nt_w) : ClassId := match w.2.1 with
  | _ :: q :: _ => q.1
  | _ => (0 : Nat)
/-- the texts that there are -/
def nt_rf (w : nt_w) (nr : Nat) (i : Nat) : Option Nat := if i < nr then some (nt_a w (47 + 2 * i)) else none
theorem nt_R7 {w : nt_w} {nr : Nat} {ln : Nat → Nat} (hR : nt_isR w nr ln) : nt_E w 7 = (fun _ => .inl (nt_cR w, 6, .inr (.inr (.inr (.inr (nt_rf w nr)))))) ∧ w.2.1[1]? = some (nt_cR w, .object RX2) := by
  obtain ⟨cI, cR, h1, h2, h3, h4⟩ := hR
  have hc : nt_cR w = cR := by simp [nt_cR, h1]
  rw [hc, h3 7 (by omega), h1]
  exact ⟨rfl, rfl⟩
set_option maxRecDepth 100000 in
set_option maxHeartbeats 4000000 in
theorem nt_grow {w : nt_w} {nr : Nat} {ln : Nat → Nat} (hR : nt_isR w nr ln) (q1 q2 len : Nat) : nt_isR (nt_w7 (nt_push w q1 q2 len) (nt_cR w) (va_up (nt_rf w nr) nr (some q1))) (nr + 1) (fun i => if i = nr then len else ln i) := by
  have hw : nt_isX w := ⟨nr, ln, hR⟩
  obtain ⟨cI, cR, h1, h2, h3, h4⟩ := hR
  have hcR : nt_cR w = cR := by simp [nt_cR, h1]
  have hcI : nt_cI w = cI := by simp [nt_cI, h1]
  rw [hcR]
  generalize hw2 : nt_w7 (nt_push w q1 q2 len) cR (va_up (nt_rf w nr) nr (some q1)) = w2
  have ha : ∀ i, i < nt_n w → nt_a w2 i = nt_a w i := fun i hi => by rw [← hw2]; exact nt_push_a (len := len) hi
  have ha1 : nt_a w2 (nt_n w) = q1 := by
    rw [← hw2]
    show (if nt_n w = nt_n w then q1 else _) = _
    rw [if_pos rfl]
  have ha2 : nt_a w2 (nt_n w + 1) = q2 := by
    rw [← hw2]
    show (if nt_n w + 1 = nt_n w then q1 else if nt_n w + 1 = nt_n w + 1 then q2 else _) = _
    rw [if_neg (by omega), if_pos rfl]
  have hn : nt_n w2 = nt_n w + 2 := by rw [← hw2]; rfl
  have hE : ∀ k, k ≠ 7 → nt_E w2 k = nt_E (nt_push w q1 q2 len) k := fun k hk => by rw [← hw2]; exact nt_w7_E hk
  have hE7 : nt_E w2 7 = fun _ => .inl (cR, 6, .inr (.inr (.inr (.inr (va_up (nt_rf w nr) nr (some q1)))))) := by rw [← hw2]; rfl
  have ht : w2.2.1 = w.2.1 := by rw [← hw2]; rfl
  have hz : w2.2.2.2.1 = w.2.2.2.1 := by rw [← hw2]; rfl
  refine ⟨cI, cR, ht.trans h1, by omega, fun k hk => ?_, by rw [hz]; exact h4⟩
  by_cases h7 : k = 7
  · subst h7
    rw [hE7]
    have e : va_up (nt_rf w nr) nr (some q1) = fun i => if i < nr + 1 then some (nt_a w2 (47 + 2 * i)) else none := by
      funext i
      by_cases hi : i = nr
      · subst hi
        rw [if_pos (by omega), ← h2, ha1]
        simp [va_up]
      · simp only [va_up, hi, if_false, nt_rf]
        by_cases hl : i < nr
        · rw [if_pos hl, if_pos (by omega), ha _ (by omega)]
        · rw [if_neg hl, if_neg (by omega)]
    rw [e]
    rfl
  rw [hE k h7]
  by_cases hlt : k < nt_n w
  · rw [nt_push_E hlt, h3 k hlt]
    by_cases h47 : k < 47
    · have ha9 : ∀ i, i < 47 → nt_a w2 i = nt_a w i := fun i hi => ha i (by omega)
      clear hE7 hE hk hlt
      funext f
      rcases (show k = 0 ∨ k = 1 ∨ k = 2 ∨ k = 3 ∨ k = 4 ∨ k = 5 ∨ k = 6 ∨ k = 8 ∨ k = 9 ∨ k = 10 ∨ k = 11 ∨ k = 12 ∨ k = 13 ∨ k = 14 ∨ k = 15 ∨ k = 16 ∨ k = 17 ∨ k = 18 ∨ k = 19 ∨ k = 20 ∨ k = 21 ∨ k = 22 ∨ k = 23 ∨ k = 24 ∨ k = 25 ∨ k = 26 ∨ k = 27 ∨ k = 28 ∨ k = 29 ∨ k = 30 ∨ k = 31 ∨ k = 32 ∨ k = 33 ∨ k = 34 ∨ k = 35 ∨ k = 36 ∨ k = 37 ∨ k = 38 ∨ k = 39 ∨ k = 40 ∨ k = 41 ∨ k = 42 ∨ k = 43 ∨ k = 44 ∨ k = 45 ∨ k = 46 by omega) with rfl | rfl | rfl | rfl | rfl | rfl | rfl | rfl | rfl | rfl | rfl | rfl | rfl | rfl | rfl | rfl | rfl | rfl | rfl | rfl | rfl | rfl | rfl | rfl | rfl | rfl | rfl | rfl | rfl | rfl | rfl | rfl | rfl | rfl | rfl | rfl | rfl | rfl | rfl | rfl | rfl | rfl | rfl | rfl | rfl | rfl <;> simp [nt_EX, ha9]
    · obtain ⟨j, rfl⟩ : ∃ j, k = j + 47 := ⟨k - 47, by omega⟩
      funext f
      show (if j % 2 = 0 then _ else _) = (if j % 2 = 0 then _ else _)
      by_cases hj : j % 2 = 0
      · rw [if_pos hj, if_pos hj, ha (j + 48) (by omega)]
      · rw [if_neg hj, if_neg hj]
        have e : (if j / 2 = nr then len else ln (j / 2)) = ln (j / 2) := if_neg (by omega)
        show _ = Sum.inl (cI, (if j / 2 = nr then len else ln (j / 2)), Sum.inl f)
        rw [e]
  · have hk2 : k = nt_n w ∨ k = nt_n w + 1 := by omega
    funext f
    rcases hk2 with rfl | rfl
    · show (if nt_n w = nt_n w then _ else _) = _
      rw [if_pos rfl]
      rw [show nt_n w = 2 * nr + 47 by omega]
      show _ = (if 2 * nr % 2 = 0 then _ else _)
      rw [if_pos (by omega), show 2 * nr + 48 = nt_n w + 1 by omega, ha2]
    · show (if nt_n w + 1 = nt_n w then _ else if nt_n w + 1 = nt_n w + 1 then _ else _) = _
      rw [if_neg (by omega), if_pos rfl, show nt_n w + 1 = (2 * nr + 1) + 47 by omega]
      show _ = (if (2 * nr + 1) % 2 = 0 then _ else _)
      rw [if_neg (by omega)]
      have e : (if (2 * nr + 1) / 2 = nr then len else ln ((2 * nr + 1) / 2)) = len := if_pos (by omega)
      show _ = Sum.inl (cI, (if (2 * nr + 1) / 2 = nr then len else ln ((2 * nr + 1) / 2)), Sum.inl f)
      rw [e, hcI]
def jNt_text_50 (s0 : Int32) (g : nt_T) : Option (Int32 × nt_T) :=
  nt_b1 (fRd_empty g) fun g7 => some (s0, g7)
set_option maxRecDepth 100000 in
set_option maxHeartbeats 4000000 in
theorem tjNt_text_50 {p : Program} {l : Launch} {e : Env} {s : State} {m : MethodId} {args : Array Value} {below : List Frame} {meth : Method} {c : Code} {w : nt_w} {A : Nat → Prop} (hw : nt_isX w) {r : Int32} {g2 : nt_T}  (X : nt_X cX8_text 2 RX8 (some .int) w A p s m args meth c) (s0 : Int32) (g : nt_T) (h : nt_R (jNt_text_50 s0 g) (fun z => z = (r, g2))) : nt_G p l e (nt_rm 79) s m args below meth c w A 0 0 (nt_Qi w A below args s r g2) 2 50 [(0, .ref (nt_a w 0))] [.int s0] g := by
  unfold jNt_text_50 at h
  refine nt_istore_n X [(1, .int s0), (0, .ref (nt_a w 0))] dX8_text_50 rfl (by decide) rfl ?_
  refine nt_aload_n X dX8_text_51 rfl 1 rfl ?_
  refine nt_get X 0 inX8 (nt_lX hw (Nat.le_of_ble_eq_true rfl)) (nt_e0 hw) rfl (j := 2) (by decide) wd_314 (v := .ref (nt_a w 10)) rfl dX8_text_52 ?_
  obtain ⟨g7, eg7, h⟩ := nt_R_b1 h
  refine nt_cVNv X (As := []) 10 (nt_lX hw (Nat.le_of_ble_eq_true rfl)) (nt_e10 hw) rfl (cRd_empty (nt_XD hw) eg7) wd_244 nt_nm8 wd_243 wd_1023 wd_4 hd_X1_empty ⟨Nat.le_of_ble_eq_true rfl, Nat.le_of_ble_eq_true rfl⟩ ⟨Nat.le_refl 0, Nat.le_refl 0⟩ (Nat.le_of_ble_eq_true rfl) rfl dX8_text_55 ?_
  refine nt_iload_n X dX8_text_58 rfl 0 rfl ?_
  have h := nt_R_some h
  exact nt_iret X dX8_text_59 h
def fNt_text (g : nt_T) : Option (Int32 × nt_T) :=
  nt_b1 (fTx_isFull g) fun r1 => (if r1 = 0 then
    (nt_b2 (fRd_reads g) fun r3 g4 => (if r3 = 0 then
    (nt_b1 (fRd_place g4) fun r6 => jNt_text_50 ((-100 : Int32) - r6) g4)
  else
    (none)))
  else
    (some ((-4 : Int32), g)))
set_option maxRecDepth 100000 in
set_option maxHeartbeats 4000000 in
theorem cNt_text {l : Launch} {w : nt_w} (hw : nt_isX w) {g : nt_T} {r : Int32} {g2 : nt_T} (hf : fNt_text g = some (r, g2)) : nt_Mi l w yX8_text cX8_text 2 (some .int) 79 [.ref (nt_a w 0)] g r g2 := by
  refine nt_Mi_of (by decide) (Nat.le_of_ble_eq_true rfl) (fun p e s m args below meth c A X => ?_)
  have X : nt_X cX8_text 2 RX8 (some .int) w A p s m args meth c := X
  have h : nt_R (fNt_text g) (fun z => z = (r, g2)) := ⟨_, hf, rfl⟩
  unfold fNt_text at h
  show nt_G p l e (nt_rm 79) s m args below meth c w A 0 0 (nt_Qi w A below args s r g2) 2 0 [(0, .ref (nt_a w 0))] [] g
  refine nt_aload_n X dX8_text_0 rfl 0 rfl ?_
  refine nt_get X 0 inX8 (nt_lX hw (Nat.le_of_ble_eq_true rfl)) (nt_e0 hw) rfl (j := 1) (by decide) wd_313 (v := .ref (nt_a w 6)) rfl dX8_text_1 ?_
  obtain ⟨r1, er1, h⟩ := nt_R_b1 h
  refine nt_cVNi X (As := []) 6 (nt_lX hw (Nat.le_of_ble_eq_true rfl)) (nt_e6 hw) rfl (cTx_isFull (nt_XD hw) er1) wd_242 nt_nm26 wd_241 wd_1022 wd_3 hd_X7_isFull ⟨Nat.le_of_ble_eq_true rfl, Nat.le_of_ble_eq_true rfl⟩ ⟨Nat.le_refl 0, Nat.le_refl 0⟩ (Nat.le_of_ble_eq_true rfl) rfl dX8_text_4 ?_
  obtain ⟨ht, hf⟩ := nt_R_if h
  refine nt_if_eq X 13 dX8_text_7 (by decide) (fun q2 => ?_) (fun q2 => ?_)
  · have h := ht q2
    refine nt_aload_n X dX8_text_13 rfl 0 rfl ?_
    refine nt_get X 0 inX8 (nt_lX hw (Nat.le_of_ble_eq_true rfl)) (nt_e0 hw) rfl (j := 2) (by decide) wd_314 (v := .ref (nt_a w 10)) rfl dX8_text_14 ?_
    obtain ⟨r3, g4, er3, h⟩ := nt_R_b2 h
    refine nt_cVNi X (As := []) 10 (nt_lX hw (Nat.le_of_ble_eq_true rfl)) (nt_e10 hw) rfl (cRd_reads (nt_XD hw) er3) wd_128 nt_nm4 wd_127 wd_1011 wd_4 hd_X1_reads ⟨Nat.le_of_ble_eq_true rfl, Nat.le_of_ble_eq_true rfl⟩ ⟨Nat.le_refl 0, Nat.le_refl 0⟩ (Nat.le_of_ble_eq_true rfl) rfl dX8_text_17 ?_
    obtain ⟨ht, hf⟩ := nt_R_if h
    refine nt_if_eq X 40 dX8_text_20 (by decide) (fun q5 => ?_) (fun q5 => ?_)
    · have h := ht q5
      refine nt_bipush X dX8_text_40 nt_cb_m100 ?_
      refine nt_aload_n X dX8_text_42 rfl 0 rfl ?_
      refine nt_get X 0 inX8 (nt_lX hw (Nat.le_of_ble_eq_true rfl)) (nt_e0 hw) rfl (j := 2) (by decide) wd_314 (v := .ref (nt_a w 10)) rfl dX8_text_43 ?_
      obtain ⟨r6, er6, h⟩ := nt_R_b1 h
      refine nt_cVNi X (As := []) 10 (nt_lX hw (Nat.le_of_ble_eq_true rfl)) (nt_e10 hw) rfl (cRd_place (nt_XD hw) er6) wd_406 nt_nm27 wd_405 wd_1037 wd_4 hd_X1_place ⟨Nat.le_of_ble_eq_true rfl, Nat.le_of_ble_eq_true rfl⟩ ⟨Nat.le_refl 0, Nat.le_refl 0⟩ (Nat.le_of_ble_eq_true rfl) rfl dX8_text_46 ?_
      refine nt_isub X dX8_text_49 ?_
      exact tjNt_text_50 hw X ((-100 : Int32) - r6) g4 h
    · have h := hf q5
      refine nt_aload_n X dX8_text_23 rfl 0 rfl ?_
      refine nt_get X 0 inX8 (nt_lX hw (Nat.le_of_ble_eq_true rfl)) (nt_e0 hw) rfl (j := 1) (by decide) wd_313 (v := .ref (nt_a w 6)) rfl dX8_text_24 ?_
      refine nt_aload_n X dX8_text_27 rfl 0 rfl ?_
      refine nt_get X 0 inX8 (nt_lX hw (Nat.le_of_ble_eq_true rfl)) (nt_e0 hw) rfl (j := 2) (by decide) wd_314 (v := .ref (nt_a w 10)) rfl dX8_text_28 ?_
      exact nt_R_none h
  · have h := hf q2
    refine nt_bipush X dX8_text_10 nt_cb_m4 ?_
    have h := nt_R_some h
    exact nt_iret X dX8_text_12 h
theorem nt_cVNi2 {p : Program} {l : Launch} {e : Env} {R : Room} {s : State} {m : MethodId} {args : Array Value} {below : List Frame} {meth : Method} {c : Code} {cells slots : Nat} {Q : State → Prop} {cc : ByteArray} {nL : Nat} {own : String} {ret : Option FieldType} {w : nt_w} {A : Nat → Prop} {g : nt_T} {pc : Nat} {lv : List (Nat × Value)} {rest : List Value} (X : nt_X cc nL own ret w A p s m args meth c) {y : MethodName} {bytes : ByteArray} {maxL dp index : Nat} {rt : Option FieldType} {As stk : List Value} {r : Int32} {w2 : nt_w} {g2 : nt_T} {host : String} (hdom : va_D A (nt_W w g) → va_D A (nt_W w2 g2)) (k0 : Nat) {C : String} {T : u_T} {N ci : Nat} {tp : (Nat → Int32) → List Value} (hn : k0 < nt_n w) (hE : nt_E w k0 = fun f => .inr (ci, tp f)) (hc : vwCl[ci]? = some (C, T, N)) (hM : nt_Mi2 l w y bytes maxL rt dp (.ref (nt_a w k0) :: As) g r w2 g2) (h1w : w2.1 = w.1) (hw0 : Cond.code y bytes maxL rt ∈ nt_tbl) (hw1 : (own, index, y, host) ∈ nt_nestM) (hw2 : Cond.instanceMethod y ∈ nt_tbl) (hw3 : Cond.selects C y y ∈ nt_tbl) (hw4 : Cond.initialized y.cls ∈ nt_tbl) (hd : y.cls ≠ "java/lang/invoke/MethodHandle" ∧ y.cls ≠ "java/lang/invoke/VarHandle" ∧ (parseMethodDescriptor y.desc).map (fun d => d.parameters.length) = some As.length) (hR : dp + 1 ≤ R.frames ∧ 8 + (maxL + 11) + 60 * dp ≤ R.locals) (hcs : cells ≤ R.cells ∧ slots ≤ R.slots) (hrs : (rest.map fun v => v.category).sum ≤ 8) (hst : stk = As.reverse ++ .ref (nt_a w k0) :: rest) (d : decode cc pc = .ok (.invokevirtual index, 3)) (k : nt_G p l e R s m args below meth c w2 A cells slots Q nL (pc + 3) lv (.int r :: rest) g2) : nt_G p l e R s m args below meth c w A cells slots Q nL pc lv stk g := by
  intro H locs ls hP hD hS hl
  subst hst
  have he : (nt_W w g)[k0]? = some (nt_a w k0, .inr (ci, tp (g k0))) := by rw [nt_W_at hn, hE]
  have hFc := nt_sub_A X hD hS
  refine va_calli (va_runVN (As := As) (rest := rest) (C := C) ⟨X.1, X.2.1, X.2.2.1, X.2.2.2.1, X.2.2.2.2.1⟩ (hM H.size) ⟨va_cnB As.length X.2.2.2.2.1 (nt_ws_good hw0) rfl rfl rfl (X.2.2.2.2.2.2.2.2.2.1.2 _ hw1) (X.2.2.2.2.1 _ hw4) hd hR, X.2.2.2.2.1 _ hw2, X.2.2.2.2.1 _ hw3⟩ ⟨nt_blind, va_recv X.2.2.2.2.2.2.2.1 hP hc he, nt_pre X hP hD hS _⟩ rfl rfl hl.1 rfl (lv_room hrs) d hcs) hS (fun q _ h => hFc q h) hFc (fun r1 u t H1 locs1 ht hvm hw hB hz1 hk1 hS1 => ?_)
  obtain ⟨rfl, rfl⟩ := hw
  refine k H1 locs1 ls ?_ (hdom hD) hS1 hl
  rw [← ht]
  exact hB
set_option maxRecDepth 100000 in
set_option maxHeartbeats 4000000 in
/-- text(), where a text was read: the world has one text more -/
theorem cNt_textY {l : Launch} {w : nt_w} {nr : Nat} {ln : Nat → Nat} (hR : nt_isR w nr ln) {g g1 g3 : nt_T} (hnf : fTx_isFull g = some 0) (hrd : fRd_reads g = some (1, g1)) (hs0 : ¬ g1 10 7 < 0) (hs9 : (g1 10 7).toNatClampNeg ≤ 160) (hnf1 : fTx_isFull (nt_pg w g1 (g1 13 (Int32.toNatClampNeg 1)) (g1 13 (Int32.toNatClampNeg 2)) (va_cpy (g1 12) (fun _ => 0) (Int32.toNatClampNeg 0) (Int32.toNatClampNeg 0) (g1 10 7).toNatClampNeg)) = some 0) (hi : nt_in (g1 6 3) 6 = true) (hnr : (g1 6 3).toNatClampNeg = nr) (he : fRd_empty (nt_st (nt_pg w g1 (g1 13 (Int32.toNatClampNeg 1)) (g1 13 (Int32.toNatClampNeg 2)) (va_cpy (g1 12) (fun _ => 0) (Int32.toNatClampNeg 0) (Int32.toNatClampNeg 0) (g1 10 7).toNatClampNeg)) 6 3 (g1 6 3 + 1)) = some g3) (sz : Nat) : Met l yX8_text (nt_ws yX8_text cX8_text 2 (some .int)) (nt_rmc 90 2 163) (va_Pc [.ref (nt_a w 0)] (nt_P w g sz)) (va_Qi (fun (r' : Int32) (u : nt_w) => r' = g1 6 3 + 1 - 1 ∧ nt_isR u (nr + 1) (fun i => if i = nr then (g1 10 7).toNatClampNeg else ln i) ∧ u.1 = w.1 ∧ u.2.1 = w.2.1 ∧ u.2.2.1 = w.2.2.1 ∧ u.2.2.2.1 = w.2.2.2.1 ∧ ∀ k, k < nt_n w → nt_a u k = nt_a w k) (fun u t => va_P u.1 vwCl (nt_W u g3) t.heap ∧ va_D (va_A (nt_W w g) sz) (nt_W u g3)) (va_A (nt_W w g) sz)) 2 163 (va_A (nt_W w g) sz) := by
  have hw : nt_isX w := ⟨nr, ln, hR⟩
  obtain ⟨h7, ht1⟩ := nt_R7 hR
  refine Met.ofW (cc := cX8_text) (maxL := 2) (ret := (some .int)) (by decide) rfl ?_
  intro p e s m args below meth c s₁ B hml hv
  obtain ⟨rfl, hsz, hP, hK, hD0, hZ⟩ := hv
  have hts := atoms_spec (ws := nt_ws yX8_text cX8_text 2 (some .int)) B.pre
  have hown : s.vm.findClass RX8 = some m.cls := findClass_of_methodNamed B.named
  subst hsz
  have X : nt_X cX8_text 2 RX8 (some .int) w (va_A (nt_W w g) s.heap.size) p s m [.ref (nt_a w 0)].toArray meth c := ⟨B.exec, B.bytes, hml, hown, fun q hq => hts q (List.mem_cons_of_mem _ hq), B.notSynchronized, B.returns, hK, fun q h => Or.inr h, hZ⟩
  have hD := hD0.self (sz := s.heap.size)
  have hl := lv_entry [.ref (nt_a w 0)] (n := 2) (Nat.le_of_ble_eq_true rfl)
  rw [lg_entry_eq]
  generalize hAe : va_A (nt_W w g) s.heap.size = A at X hD ⊢
  generalize hQe : (MQ below (va_Qi (fun (r' : Int32) (u : nt_w) => r' = g1 6 3 + 1 - 1 ∧ nt_isR u (nr + 1) (fun i => if i = nr then (g1 10 7).toNatClampNeg else ln i) ∧ u.1 = w.1 ∧ u.2.1 = w.2.1 ∧ u.2.2.1 = w.2.2.1 ∧ u.2.2.2.1 = w.2.2.2.1 ∧ ∀ k, k < nt_n w → nt_a u k = nt_a w k) (fun u t => va_P u.1 vwCl (nt_W u g3) t.heap ∧ va_D A (nt_W u g3)) A) [.ref (nt_a w 0)].toArray s 2 163 A) = Q
  generalize ([Value.ref (nt_a w 0)] : List Value).toArray = args at X hQe ⊢
  refine (?_ : nt_G p l e (nt_rmc 90 2 163) s m args below meth c w A 0 0 Q 2 0 [(0, .ref (nt_a w 0))] [] g) s.heap [] _ hP hD va_S.rf hl
  refine nt_aload_n X dX8_text_0 rfl 0 rfl ?_
  refine nt_get X 0 inX8 (nt_lX hw (Nat.le_of_ble_eq_true rfl)) (nt_e0 hw) rfl (j := 1) (by decide) wd_313 (v := .ref (nt_a w 6)) rfl dX8_text_1 ?_
  refine nt_cVNi X (As := []) 6 (nt_lX hw (Nat.le_of_ble_eq_true rfl)) (nt_e6 hw) rfl (cTx_isFull (nt_XD hw) hnf) wd_242 nt_nm26 wd_241 wd_1022 wd_3 hd_X7_isFull ⟨Nat.le_of_ble_eq_true rfl, Nat.le_of_ble_eq_true rfl⟩ ⟨Nat.le_of_ble_eq_true rfl, Nat.le_of_ble_eq_true rfl⟩ (Nat.le_of_ble_eq_true rfl) rfl dX8_text_4 ?_
  refine nt_if_eq X 13 dX8_text_7 (by decide) (fun _ => ?_) (fun q => absurd rfl q)
  refine nt_aload_n X dX8_text_13 rfl 0 rfl ?_
  refine nt_get X 0 inX8 (nt_lX hw (Nat.le_of_ble_eq_true rfl)) (nt_e0 hw) rfl (j := 2) (by decide) wd_314 (v := .ref (nt_a w 10)) rfl dX8_text_14 ?_
  refine nt_cVNi X (As := []) 10 (nt_lX hw (Nat.le_of_ble_eq_true rfl)) (nt_e10 hw) rfl (cRd_reads (nt_XD hw) hrd) wd_128 nt_nm4 wd_127 wd_1011 wd_4 hd_X1_reads ⟨Nat.le_of_ble_eq_true rfl, Nat.le_of_ble_eq_true rfl⟩ ⟨Nat.le_of_ble_eq_true rfl, Nat.le_of_ble_eq_true rfl⟩ (Nat.le_of_ble_eq_true rfl) rfl dX8_text_17 ?_
  refine nt_if_eq X 40 dX8_text_20 (by decide) (fun q => absurd q (by decide)) (fun _ => ?_)
  refine nt_aload_n X dX8_text_23 rfl 0 rfl ?_
  refine nt_get X 0 inX8 (nt_lX hw (Nat.le_of_ble_eq_true rfl)) (nt_e0 hw) rfl (j := 1) (by decide) wd_313 (v := .ref (nt_a w 6)) rfl dX8_text_24 ?_
  refine nt_aload_n X dX8_text_27 rfl 0 rfl ?_
  refine nt_get X 0 inX8 (nt_lX hw (Nat.le_of_ble_eq_true rfl)) (nt_e0 hw) rfl (j := 2) (by decide) wd_314 (v := .ref (nt_a w 10)) rfl dX8_text_28 ?_
  intro H locs ls hP hD hS hl
  have he10 : (nt_W w g1)[10]? = some (nt_a w 10, .inr (1, [.ref (nt_a w 11), .int (g1 10 1), .int (g1 10 2), .int (g1 10 3), .int (g1 10 4), .int (g1 10 5), .ref (nt_a w 12), .int (g1 10 7), .ref (nt_a w 13)])) := by rw [nt_W_at (nt_lX hw (Nat.le_of_ble_eq_true rfl)), nt_e10 hw]
  have hFc := nt_sub_A X hD hS
  refine va_callr (va_runVN (As := []) (rest := [.ref (nt_a w 6)]) (C := RX1) ⟨X.1, X.2.1, X.2.2.1, X.2.2.2.1, X.2.2.2.2.1⟩ (cRd_made l (nt_XD hw) g1 hs0 hs9 H.size) ⟨va_cnB 0 X.2.2.2.2.1 (nt_ws_good wd_222) rfl rfl rfl (X.2.2.2.2.2.2.2.2.2.1.2 _ nt_nm5) (X.2.2.2.2.1 _ wd_4) hd_X1_made ⟨Nat.le_of_ble_eq_true rfl, Nat.le_of_ble_eq_true rfl⟩, X.2.2.2.2.1 _ wd_221, X.2.2.2.2.1 _ wd_1020⟩ ⟨nt_blind, va_recv X.2.2.2.2.2.2.2.1 hP (ci := 1) rfl he10, nt_pre X hP hD hS _⟩ rfl rfl hl.1 rfl (lv_room (Nat.le_of_ble_eq_true rfl)) dX8_text_31 ⟨Nat.le_of_ble_eq_true rfl, Nat.le_of_ble_eq_true rfl⟩) hS (fun q _ h => hFc q h) hFc (fun u ra t H1 locs1 ht hvm hw9 hB hz1 hk1 hS1 => ?_)
  obtain ⟨q1, q2⟩ := u
  obtain ⟨rfl, hP1, hD1⟩ := hB
  rw [ht] at hP1
  rw [← nt_push_W (p := (g1 13 (Int32.toNatClampNeg 1))) (t := (g1 13 (Int32.toNatClampNeg 2)))] at hP1 hD1
  have hD1 := hD1.weaken (B := A) (fun _ _ _ h => hFc _ h)
  have hwP := nt_push_D (nt_XD hw) ra q2 (g1 10 7).toNatClampNeg
  have hn6 : (6 : Nat) < nt_n w := nt_lX hw (Nat.le_of_ble_eq_true rfl)
  have hn0 : (0 : Nat) < nt_n w := nt_lX hw (Nat.le_of_ble_eq_true rfl)
  have hn7 : (7 : Nat) < nt_n w := nt_lX hw (Nat.le_of_ble_eq_true rfl)
  have ha1 : nt_a (nt_push w ra q2 (g1 10 7).toNatClampNeg) (nt_n w) = ra := by
    show (if nt_n w = nt_n w then ra else _) = _
    rw [if_pos rfl]
  have h63 : (nt_pg w g1 (g1 13 (Int32.toNatClampNeg 1)) (g1 13 (Int32.toNatClampNeg 2)) (va_cpy (g1 12) (fun _ => 0) (Int32.toNatClampNeg 0) (Int32.toNatClampNeg 0) (g1 10 7).toNatClampNeg)) 6 3 = g1 6 3 := by
    show (if 6 = nt_n w then _ else if 6 = nt_n w + 1 then _ else g1 6) 3 = _
    rw [if_neg (by omega), if_neg (by omega)]
  have X : nt_X cX8_text 2 RX8 (some .int) (nt_push w ra q2 (g1 10 7).toNatClampNeg) A p s m args meth c := X
  have hEr : nt_E (nt_push w ra q2 (g1 10 7).toNatClampNeg) (nt_n w) = fun f => .inr (2, [.ref q2, .int (f 1), .int (f 2)]) := by
    funext f
    show (if nt_n w = nt_n w then _ else _) = _
    rw [if_pos rfl]
  have hadd := cTx_add (l := l) hwP (cR := nt_cR w) (rf := nt_rf w nr) (by rw [nt_push_E hn7]; exact h7) ht1 (kr := nt_n w) (by show _ < nt_n w + 2; omega) hEr (g := (nt_pg w g1 (g1 13 (Int32.toNatClampNeg 1)) (g1 13 (Int32.toNatClampNeg 2)) (va_cpy (g1 12) (fun _ => 0) (Int32.toNatClampNeg 0) (Int32.toNatClampNeg 0) (g1 10 7).toNatClampNeg))) (by rw [h63]; exact hi) hnf1
  rw [h63, ha1, hnr] at hadd
  have hR2 := nt_grow hR ra q2 (g1 10 7).toNatClampNeg
  generalize hw2e : nt_w7 (nt_push w ra q2 (g1 10 7).toNatClampNeg) (nt_cR w) (va_up (nt_rf w nr) nr (some ra)) = w2 at hadd hR2
  have hw2 : nt_isX w2 := ⟨_, _, hR2⟩
  have hax : ∀ k, k < nt_n w → nt_a w2 k = nt_a w k := fun k hk => by rw [← hw2e]; exact nt_push_a (len := (g1 10 7).toNatClampNeg) hk
  have hsame : w2.1 = w.1 ∧ w2.2.1 = w.2.1 ∧ w2.2.2.1 = w.2.2.1 ∧ w2.2.2.2.1 = w.2.2.2.1 := by rw [← hw2e]; exact ⟨rfl, rfl, rfl, rfl⟩
  have X2 : nt_X cX8_text 2 RX8 (some .int) w2 A p s m args meth c := by rw [← hw2e]; exact X
  refine (?_ : nt_G p l e (nt_rmc 90 2 163) s m args below meth c (nt_push w ra q2 (g1 10 7).toNatClampNeg) A 2 163 Q 2 34 [(0, .ref (nt_a w 0))] [.ref ra, .ref (nt_a w 6)] (nt_pg w g1 (g1 13 (Int32.toNatClampNeg 1)) (g1 13 (Int32.toNatClampNeg 2)) (va_cpy (g1 12) (fun _ => 0) (Int32.toNatClampNeg 0) (Int32.toNatClampNeg 0) (g1 10 7).toNatClampNeg))) H1 locs1 ls hP1 hD1 hS1 hl
  refine nt_cVNi2 X (As := [.ref ra]) (stk := [.ref ra, .ref (nt_a w 6)]) (rest := []) (w2 := w2) (fun h => by rw [← hw2e]; exact nt_w7_dom h) 6 (nt_lD hwP (Nat.le_of_ble_eq_true rfl)) (nt_d6 hwP) rfl hadd (by rw [← hw2e]; rfl) wd_239 nt_nm7 wd_238 wd_1021 wd_3 hd_X7_add ⟨Nat.le_of_ble_eq_true rfl, Nat.le_of_ble_eq_true rfl⟩ ⟨Nat.le_of_ble_eq_true rfl, Nat.le_of_ble_eq_true rfl⟩ (Nat.le_of_ble_eq_true rfl) (by rw [nt_push_a hn6]; rfl) dX8_text_34 ?_
  have X := X2
  refine nt_goto X 50 dX8_text_37 (by decide) ?_
  refine nt_istore_n X [(1, .int (g1 6 3 + 1 - 1)), (0, .ref (nt_a w2 0))] dX8_text_50 rfl (by decide) (by rw [hax 0 hn0]; rfl) ?_
  refine nt_aload_n X dX8_text_51 rfl 1 rfl ?_
  refine nt_get X 0 inX8 (nt_lX hw2 (Nat.le_of_ble_eq_true rfl)) (nt_e0 hw2) rfl (j := 2) (by decide) wd_314 (v := .ref (nt_a w2 10)) rfl dX8_text_52 ?_
  refine nt_cVNv X (As := []) 10 (nt_lX hw2 (Nat.le_of_ble_eq_true rfl)) (nt_e10 hw2) rfl (cRd_empty (nt_XD hw2) he) wd_244 nt_nm8 wd_243 wd_1023 wd_4 hd_X1_empty ⟨Nat.le_of_ble_eq_true rfl, Nat.le_of_ble_eq_true rfl⟩ ⟨Nat.le_of_ble_eq_true rfl, Nat.le_of_ble_eq_true rfl⟩ (Nat.le_of_ble_eq_true rfl) rfl dX8_text_55 ?_
  refine nt_iload_n X dX8_text_58 rfl 0 rfl ?_
  intro H locs ls hP hD hS hl
  have hlocks := X.2.2.2.2.2.1
  rw [← hQe]
  refine W.iret (v := g1 6 3 + 1 - 1) X.1 X.2.1 X.2.2.2.2.2.2.1 (fun t ht hW => ?_) hS.2.2 dX8_text_59
  refine ⟨⟨g1 6 3 + 1 - 1, w2, rfl, ?_, ?_⟩, hS.F ht⟩
  · exact ⟨rfl, hR2, hsame.1, hsame.2.1, hsame.2.2.1, hsame.2.2.2, hax⟩
  · exact ⟨by rw [ht]; exact hP, hD⟩
