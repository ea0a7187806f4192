theorem nt_ap {α : Type} (L R : List α) (k : Nat) : (L ++ R)[L.length + k]? = R[k]? := by
  rw [List.getElem?_append_right (by omega)]
  congr 1
  omega
theorem nt_as {α : Type} (L R : List α) (k : Nat) (x : α) : (L ++ R).set (L.length + k) x = L ++ R.set k x := by
  rw [List.set_append_right _ _ (by omega)]
  congr 2
  omega
theorem nt_al {α : Type} {L R : List α} {k : Nat} {x : α} (h : L[k]? = some x) : (L ++ R)[k]? = some x := by
  rw [List.getElem?_append_left ((List.getElem?_eq_some_iff.mp h).1)]
  exact h
theorem nt_W_len (w : nt_w) (g : nt_T) : (nt_W w g).length = nt_n w := by simp [nt_W]
set_option maxRecDepth 100000 in
set_option maxHeartbeats 4000000 in
/-- Rule(row, size, paysAt, tiresAt) beside a world whose cell 12 is the row -/
theorem ctor_RuW (l : Launch) (w : nt_w) (hw : nt_isD w) (g : nt_T) (h0 : Nat) (x2 x3 x4 : Int32) (hsz0 : ¬ x2 < 0) (hsz9 : x2.toNatClampNeg ≤ 160) (sz : Nat) : Met l yX2_init (nt_ws yX2_init cX2_init 5 none) ({ frames := 2, cells := 1, slots := 160, locals := 120 }) (va_Pc [.ref h0, .ref (nt_a w 12), .int x2, .int x3, .int x4] (fun U => U.heap.size = sz ∧ va_P w.1 vwCl (nt_W w g ++ [(h0, .inr (2, [.null, .int 0, .int 0]))]) U.heap ∧ va_K w.1 vwCl w.2.1 U ∧ va_D (fun _ => True) (nt_W w g ++ [(h0, .inr (2, [.null, .int 0, .int 0]))]))) (va_Qv (fun (_ : Nat) => True) (fun u t => va_P w.1 vwCl (nt_W w g ++ [(h0, .inr (2, [.ref u, .int x3, .int x4])), (u, .inl (nt_cI w, x2.toNatClampNeg, .inl (va_cpy (g 12) (fun _ => 0) (Int32.toNatClampNeg 0) (Int32.toNatClampNeg 0) x2.toNatClampNeg)))]) t.heap ∧ va_D (va_A (nt_W w g ++ [(h0, .inr (2, [.null, .int 0, .int 0]))]) sz) (nt_W w g ++ [(h0, .inr (2, [.ref u, .int x3, .int x4])), (u, .inl (nt_cI w, x2.toNatClampNeg, .inl (va_cpy (g 12) (fun _ => 0) (Int32.toNatClampNeg 0) (Int32.toNatClampNeg 0) x2.toNatClampNeg)))])) (va_A (nt_W w g ++ [(h0, .inr (2, [.null, .int 0, .int 0]))]) sz)) 1 160 (va_A (nt_W w g ++ [(h0, .inr (2, [.null, .int 0, .int 0]))]) sz) := by
  refine Met.ofW (cc := cX2_init) (maxL := 5) (ret := none) (by decide) rfl ?_
  intro p e s m args below meth c s₁ B hml hv
  obtain ⟨rfl, hsz, hP, hK, hD0⟩ := hv
  have hx := B.exec
  have hb := B.bytes
  have hr := B.returns
  have hts0 := atoms_spec (ws := nt_ws yX2_init cX2_init 5 none) B.pre
  have hts : ∀ q ∈ nt_tbl, q.before [.ref h0, .ref (nt_a w 12), .int x2, .int x3, .int x4].toArray s = true := fun q hq => hts0 q (List.mem_cons_of_mem _ hq)
  have hown : s.vm.findClass RX2 = some m.cls := findClass_of_methodNamed B.named
  have hlocks := B.notSynchronized
  have hin : meth.name = "<init>" := (name_of_methodNamed B.named B.method).1
  subst hsz
  have hD := hD0.self (sz := s.heap.size)
  generalize hAe : va_A (nt_W w g ++ [(h0, .inr (2, [.null, .int 0, .int 0]))]) s.heap.size = A at hD ⊢
  have hA : ∀ q : Nat, s.heap.size ≤ q → A q := fun q h => by rw [← hAe]; exact Or.inr h
  have hS : va_S A s.heap s.heap [] := va_S.rf
  have h12 : (nt_W w g)[12]? = some (nt_a w 12, .inl (nt_cI w, 160, .inl (g 12))) := by rw [nt_W_at (nt_lD hw (by omega)), nt_d12 hw]
  have hl := lv_entry ([.ref h0, .ref (nt_a w 12), .int x2, .int x3, .int x4]) (n := 5) (Nat.le_of_ble_eq_true rfl)
  rw [lg_entry_eq]
  generalize (lg_sl ([.ref h0, .ref (nt_a w 12), .int x2, .int x3, .int x4]) ++ List.replicate (5 - (lg_sl ([.ref h0, .ref (nt_a w 12), .int x2, .int x3, .int x4])).length) Slot.unset).toArray = ls at hl ⊢
  have hl : lv_has ls 5 [(0, .ref h0), (1, .ref (nt_a w 12)), (2, .int x2), (3, .int x3), (4, .int x4)] := hl
  refine lv_aload_n hx hb dX2_init_0 rfl (lv_at hl 0 rfl) ?_
  refine W.objInit hx hb hown (hts _ wd_227) (hts _ wd_24) (hts _ wd_25) rfl (by rw [hml]; exact hl.1) rfl dX2_init_1 (Nat.le_of_ble_eq_true rfl) (Nat.le_of_ble_eq_true rfl) ?_
  refine W.eq (g2 := F0 m 4 ls []) rfl ?_
  refine lv_aload_n hx hb dX2_init_4 rfl (lv_at hl 0 rfl) ?_
  refine lv_iload_n hx hb dX2_init_5 rfl (lv_at hl 2 rfl) ?_
  refine nt_newI hx hb (hts _ wd_41) hK hw.1 hP hD hS hA (N' := x2.toNatClampNeg) hsz0 rfl (Nat.le_trans hsz9 (Nat.le_of_ble_eq_true rfl)) (Nat.le_of_ble_eq_true rfl) (by show 0 + _ ≤ 160; omega) dX2_init_6 (fun q1 H hP hD hS => ?_)
  rw [List.append_assoc] at hP hD
  have hP : va_P w.1 vwCl (nt_W w g ++ [(h0, .inr (2, [.null, .int 0, .int 0])), (q1, .inl (nt_cI w, x2.toNatClampNeg, .inl (fun _ => 0)))]) H := hP
  have hD : va_D A (nt_W w g ++ [(h0, .inr (2, [.null, .int 0, .int 0])), (q1, .inl (nt_cI w, x2.toNatClampNeg, .inl (fun _ => 0)))]) := hD
  refine va_putF (D := w.1) (ci := 2) (v := .ref q1) (ty := .array .int) (C := RX2) (T := TX2) (N := 3) hx hb hts inX2 tyX2 tyX2_ok nmX2 hown hK hP hD hS ((nt_W w g).length + 0) (nt_ap _ _ 0) rfl 0 (by decide) (hts _ wd_231) (fun _ h9 => h9) rfl hin rfl (by decide +kernel) rfl rfl (Nat.le_of_ble_eq_true rfl) dX2_init_8 (fun H locs hP hD hS => ?_)
  rw [nt_as (nt_W w g) _ 0] at hP hD
  have hP : va_P w.1 vwCl (nt_W w g ++ [(h0, .inr (2, [.ref q1, .int 0, .int 0])), (q1, .inl (nt_cI w, x2.toNatClampNeg, .inl (fun _ => 0)))]) H := hP
  have hD : va_D A (nt_W w g ++ [(h0, .inr (2, [.ref q1, .int 0, .int 0])), (q1, .inl (nt_cI w, x2.toNatClampNeg, .inl (fun _ => 0)))]) := hD
  refine lv_aload_n hx hb dX2_init_11 rfl (lv_at hl 1 rfl) ?_
  refine lv_iconst (v := (0 : Int32)) hx hb dX2_init_12 nt_ci_0 ?_
  refine lv_aload_n hx hb dX2_init_13 rfl (lv_at hl 0 rfl) ?_
  refine va_get (D := w.1) (ci := 2) (v := .ref q1) (C := RX2) (T := TX2) (N := 3) hx hb hts inX2 hown hK hP ((nt_W w g).length + 0) (nt_ap _ _ 0) rfl 0 (by decide) (hts _ wd_231) (fun _ h9 => h9) rfl dX2_init_14 ?_
  refine lv_iconst (v := (0 : Int32)) hx hb dX2_init_17 nt_ci_0 ?_
  refine lv_iload_n hx hb dX2_init_18 rfl (lv_at hl 2 rfl) ?_
  refine va_copyi hx hb (hml.trans hl.1.symm) hown (hts _ wd_228) (hts _ wd_230) (hts _ wd_229) (hts _ wd_12) hK hP hD hS 12 ((nt_W w g).length + 1) 0 0 (nt_al h12) (nt_ap _ _ 1) hw.1 hw.1 rfl (sp := 0) (dp := 0) (n := x2) (by decide) (by decide) hsz0 (by show 0 + _ ≤ 160; omega) (by show 0 + _ ≤ _; omega) (fun _ _ => rfl) (Nat.le_of_ble_eq_true rfl) (Nat.le_of_ble_eq_true rfl) dX2_init_19 (fun H locs hP hD hS => ?_)
  rw [nt_as (nt_W w g) _ 1] at hP hD
  have hP : va_P w.1 vwCl (nt_W w g ++ [(h0, .inr (2, [.ref q1, .int 0, .int 0])), (q1, .inl (nt_cI w, x2.toNatClampNeg, .inl (va_cpy (g 12) (fun _ => 0) (Int32.toNatClampNeg 0) (Int32.toNatClampNeg 0) x2.toNatClampNeg)))]) H := hP
  have hD : va_D A (nt_W w g ++ [(h0, .inr (2, [.ref q1, .int 0, .int 0])), (q1, .inl (nt_cI w, x2.toNatClampNeg, .inl (va_cpy (g 12) (fun _ => 0) (Int32.toNatClampNeg 0) (Int32.toNatClampNeg 0) x2.toNatClampNeg)))]) := hD
  refine lv_aload_n hx hb dX2_init_22 rfl (lv_at hl 0 rfl) ?_
  refine lv_iload_n hx hb dX2_init_23 rfl (lv_at hl 3 rfl) ?_
  refine va_putF (D := w.1) (ci := 2) (v := .int x3) (ty := .int) (C := RX2) (T := TX2) (N := 3) hx hb hts inX2 tyX2 tyX2_ok nmX2 hown hK hP hD hS ((nt_W w g).length + 0) (nt_ap _ _ 0) rfl 1 (by decide) (hts _ wd_232) (fun _ h9 => h9) rfl hin rfl (by decide +kernel) rfl rfl (Nat.le_of_ble_eq_true rfl) dX2_init_24 (fun H locs hP hD hS => ?_)
  rw [nt_as (nt_W w g) _ 0] at hP hD
  have hP : va_P w.1 vwCl (nt_W w g ++ [(h0, .inr (2, [.ref q1, .int x3, .int 0])), (q1, .inl (nt_cI w, x2.toNatClampNeg, .inl (va_cpy (g 12) (fun _ => 0) (Int32.toNatClampNeg 0) (Int32.toNatClampNeg 0) x2.toNatClampNeg)))]) H := hP
  have hD : va_D A (nt_W w g ++ [(h0, .inr (2, [.ref q1, .int x3, .int 0])), (q1, .inl (nt_cI w, x2.toNatClampNeg, .inl (va_cpy (g 12) (fun _ => 0) (Int32.toNatClampNeg 0) (Int32.toNatClampNeg 0) x2.toNatClampNeg)))]) := hD
  refine lv_aload_n hx hb dX2_init_27 rfl (lv_at hl 0 rfl) ?_
  refine lv_iload hx hb dX2_init_28 (lv_at hl 4 rfl) ?_
  refine va_putF (D := w.1) (ci := 2) (v := .int x4) (ty := .int) (C := RX2) (T := TX2) (N := 3) hx hb hts inX2 tyX2 tyX2_ok nmX2 hown hK hP hD hS ((nt_W w g).length + 0) (nt_ap _ _ 0) rfl 2 (by decide) (hts _ wd_233) (fun _ h9 => h9) rfl hin rfl (by decide +kernel) rfl rfl (Nat.le_of_ble_eq_true rfl) dX2_init_30 (fun H locs hP hD hS => ?_)
  rw [nt_as (nt_W w g) _ 0] at hP hD
  have hP : va_P w.1 vwCl (nt_W w g ++ [(h0, .inr (2, [.ref q1, .int x3, .int x4])), (q1, .inl (nt_cI w, x2.toNatClampNeg, .inl (va_cpy (g 12) (fun _ => 0) (Int32.toNatClampNeg 0) (Int32.toNatClampNeg 0) x2.toNatClampNeg)))]) H := hP
  have hD : va_D A (nt_W w g ++ [(h0, .inr (2, [.ref q1, .int x3, .int x4])), (q1, .inl (nt_cI w, x2.toNatClampNeg, .inl (va_cpy (g 12) (fun _ => 0) (Int32.toNatClampNeg 0) (Int32.toNatClampNeg 0) x2.toNatClampNeg)))]) := hD
  refine W.widen (k := 1) (n := 160) (by omega) (by omega) ?_
  exact W.vret hx hb hr (fun t ht hW => ⟨⟨q1, rfl, trivial, by rw [ht]; exact hP, hD⟩, hS.F ht⟩) hS.2.2 dX2_init_33
set_option maxRecDepth 100000 in
set_option maxHeartbeats 4000000 in
/-- made(): a new Rule of what has been read -/
theorem cRd_made (l : Launch) {w : nt_w} (hw : nt_isD w) (g : nt_T) (hsz0 : ¬ g 10 7 < 0) (hsz9 : (g 10 7).toNatClampNeg ≤ 160) (sz : Nat) : Met l yX1_made (nt_ws yX1_made cX1_made 1 (some (.object "NotTwice$Rule"))) ({ frames := 5, cells := 2, slots := 163, locals := 400 }) (va_Pc [.ref (nt_a w 10)] (nt_P w g sz)) (va_Qr (fun (_ : Nat × Nat) => True) (fun u a t => a = u.1 ∧ va_P w.1 vwCl (nt_W w g ++ [(u.1, .inr (2, [.ref u.2, .int (g 13 (Int32.toNatClampNeg 1)), .int (g 13 (Int32.toNatClampNeg 2))])), (u.2, .inl (nt_cI w, (g 10 7).toNatClampNeg, .inl (va_cpy (g 12) (fun _ => 0) (Int32.toNatClampNeg 0) (Int32.toNatClampNeg 0) (g 10 7).toNatClampNeg)))]) t.heap ∧ va_D (va_A (nt_W w g) sz) (nt_W w g ++ [(u.1, .inr (2, [.ref u.2, .int (g 13 (Int32.toNatClampNeg 1)), .int (g 13 (Int32.toNatClampNeg 2))])), (u.2, .inl (nt_cI w, (g 10 7).toNatClampNeg, .inl (va_cpy (g 12) (fun _ => 0) (Int32.toNatClampNeg 0) (Int32.toNatClampNeg 0) (g 10 7).toNatClampNeg)))])) (va_A (nt_W w g) sz)) 2 163 (va_A (nt_W w g) sz) := by
  refine Met.ofW (cc := cX1_made) (maxL := 1) (ret := (some (.object "NotTwice$Rule"))) (by decide) rfl ?_
  intro p e s m args below meth c s₁ B hml hv
  obtain ⟨rfl, hsz, hP, hK, hD0, hZ⟩ := hv
  have hx := B.exec
  have hb := B.bytes
  have hr := B.returns
  have hts0 := atoms_spec (ws := nt_ws yX1_made cX1_made 1 (some (.object "NotTwice$Rule"))) B.pre
  have hts : ∀ q ∈ nt_tbl, q.before [.ref (nt_a w 10)].toArray s = true := fun q hq => hts0 q (List.mem_cons_of_mem _ hq)
  have hown : s.vm.findClass RX1 = some m.cls := findClass_of_methodNamed B.named
  have hlocks := B.notSynchronized
  subst hsz
  have hD := hD0.self (sz := s.heap.size)
  generalize hAe : va_A (nt_W w g) s.heap.size = A at hD hZ ⊢
  have hA : ∀ q : Nat, s.heap.size ≤ q → A q := fun q h => by rw [← hAe]; exact Or.inr h
  have hS : va_S A s.heap s.heap [] := va_S.rf
  have h10 : (nt_W w g)[10]? = some (nt_a w 10, .inr (1, [.ref (nt_a w 11), .int (g 10 1), .int (g 10 2), .int (g 10 3), .int (g 10 4), .int (g 10 5), .ref (nt_a w 12), .int (g 10 7), .ref (nt_a w 13)])) := by rw [nt_W_at (nt_lD hw (by omega)), nt_d10 hw]
  have h13 : (nt_W w g)[13]? = some (nt_a w 13, .inl (nt_cI w, 3, .inl (g 13))) := by rw [nt_W_at (nt_lD hw (by omega)), nt_d13 hw]
  have hl := lv_entry ([.ref (nt_a w 10)]) (n := 1) (Nat.le_of_ble_eq_true rfl)
  rw [lg_entry_eq]
  generalize (lg_sl ([.ref (nt_a w 10)]) ++ List.replicate (1 - (lg_sl ([.ref (nt_a w 10)])).length) Slot.unset).toArray = ls at hl ⊢
  have hl : lv_has ls 1 [(0, .ref (nt_a w 10))] := hl
  refine va_new (ci := 2) (fs := [.null, .int 0, .int 0]) (C := RX2) (T := TX2) (N := 3) hx hb hts inX2 tyX2 tyX2_ok hown (hts _ wd_223) (hts _ wd_224) (hts _ wd_11) hK hP hD hS hA rfl (fun j hj => by rcases (show j = 0 ∨ j = 1 ∨ j = 2 by omega) with rfl | rfl | rfl <;> rfl) (Nat.le_of_ble_eq_true rfl) (Nat.le_of_ble_eq_true rfl) dX1_made_0 (fun q1 H hP hD hS => ?_)
  refine lv_dup hx hb dX1_made_3 rfl ?_
  refine lv_aload_n hx hb dX1_made_4 rfl (lv_at hl 0 rfl) ?_
  refine va_get (D := w.1) (ci := 1) (v := .ref (nt_a w 12)) (C := RX1) (T := TX1) (N := 9) hx hb hts inX1 hown hK hP 10 (nt_al h10) rfl 6 (by decide) (hts _ wd_67) (fun _ h9 => h9) rfl dX1_made_5 ?_
  refine lv_aload_n hx hb dX1_made_8 rfl (lv_at hl 0 rfl) ?_
  refine va_get (D := w.1) (ci := 1) (v := .int (g 10 7)) (C := RX1) (T := TX1) (N := 9) hx hb hts inX1 hown hK hP 10 (nt_al h10) rfl 7 (by decide) (hts _ wd_68) (fun _ h9 => h9) rfl dX1_made_9 ?_
  refine lv_aload_n hx hb dX1_made_12 rfl (lv_at hl 0 rfl) ?_
  refine va_get (D := w.1) (ci := 1) (v := .ref (nt_a w 13)) (C := RX1) (T := TX1) (N := 9) hx hb hts inX1 hown hK hP 10 (nt_al h10) rfl 8 (by decide) (hts _ wd_69) (fun _ h9 => h9) rfl dX1_made_13 ?_
  refine lv_iconst (v := (1 : Int32)) hx hb dX1_made_16 nt_ci_1 ?_
  refine va_iald hx hb hK hP 13 0 (nt_al h13) hw.1 (i := 1) (nt_in_vp (by decide)) dX1_made_17 ?_
  refine lv_aload_n hx hb dX1_made_18 rfl (lv_at hl 0 rfl) ?_
  refine va_get (D := w.1) (ci := 1) (v := .ref (nt_a w 13)) (C := RX1) (T := TX1) (N := 9) hx hb hts inX1 hown hK hP 10 (nt_al h10) rfl 8 (by decide) (hts _ wd_69) (fun _ h9 => h9) rfl dX1_made_19 ?_
  refine lv_iconst (v := (2 : Int32)) hx hb dX1_made_22 nt_ci_2 ?_
  refine va_iald hx hb hK hP 13 0 (nt_al h13) hw.1 (i := 2) (nt_in_vp (by decide)) dX1_made_23 ?_
  have hFc : ∀ q, va_A (nt_W w g ++ [(q1, .inr (2, [.null, .int 0, .int 0]))]) H.size q → A q := by
    intro q h
    rcases h with ⟨k, e, h⟩ | h
    · exact hD.2 k _ h
    · exact hA q (Nat.le_trans hS.1 h)
  refine va_callv (va_runIN (As := [.ref (nt_a w 12), .int (g 10 7), .int (g 13 (Int32.toNatClampNeg 1)), .int (g 13 (Int32.toNatClampNeg 2))]) (rest := [.ref q1]) ⟨hx, hb, hml, hown, hts⟩ (ctor_RuW l w hw g q1 (g 10 7) (g 13 (Int32.toNatClampNeg 1)) (g 13 (Int32.toNatClampNeg 2)) hsz0 hsz9 H.size) ⟨va_cnB 4 hts (nt_ws_good wd_226) rfl rfl rfl (hZ.1.2 _ nt_nm6) (hts _ wd_11) (by decide +kernel) ⟨Nat.le_of_ble_eq_true rfl, Nat.le_of_ble_eq_true rfl⟩, rfl, hts _ wd_225⟩ ⟨fun a U gf mk q => by obtain ⟨q0, q1, q2, q3, q4⟩ := q; exact ⟨q0, q1, q2, va_K.moved (u := U) (U := U.calling gf mk a) (Vm.Alike.refl U.vm) q3, q4⟩, fun U hU hW => ⟨rfl, by rw [hU], by rw [hU]; exact hP, va_K.moved hW.alike hK, hD.weaken (fun _ _ _ _ => trivial)⟩⟩ rfl rfl hl.1 rfl (lv_room (Nat.le_of_ble_eq_true rfl)) dX1_made_24 ⟨Nat.le_of_ble_eq_true rfl, Nat.le_of_ble_eq_true rfl⟩) hS (fun q _ h => hFc q h) hFc (fun q2 t H1 locs ht hvm hw9 hB hz1 hk1 hS => ?_)
  obtain ⟨hP, hD9⟩ := hB
  rw [ht] at hP
  have hD : va_D A (nt_W w g ++ [(q1, .inr (2, [.ref q2, .int (g 13 (Int32.toNatClampNeg 1)), .int (g 13 (Int32.toNatClampNeg 2))])), (q2, .inl (nt_cI w, (g 10 7).toNatClampNeg, .inl (va_cpy (g 12) (fun _ => 0) (Int32.toNatClampNeg 0) (Int32.toNatClampNeg 0) (g 10 7).toNatClampNeg)))]) := hD9.weaken (fun k q hk h => hFc _ h)
  refine W.widen (k := 2) (n := 163) (by omega) (by omega) ?_
  exact W.aret hx hb hr (Or.inl ⟨_, rfl⟩) (Or.inr ⟨_, rfl⟩) (fun t ht hW => ⟨⟨(q1, q2), q1, rfl, trivial, rfl, by rw [ht]; exact hP, hD⟩, hS.F ht⟩) hS.2.2 dX1_made_27
