def nt_w14 (D : va_G) (cI cR : ClassId) (zk : Nat → Nat) (zf : Value) (lay : Nat → Nat) : nt_w := (D, [(cI, .int), (cR, .object RX2)], zk, zf, 14, lay, (fun k => if k = 0 then (fun _ => .inr (7, [.ref (lay 1), .ref (lay 6), .ref (lay 10), .null, .null, .null, .null, .null, .int 0])) else if k = 7 then (fun _ => .inl (cR, 6, .inr (.inr (.inr (.inr (fun _ => none)))))) else nt_EX lay 0 (fun _ => 0) cI cR k))
theorem nt_w14_D {D : va_G} {cI cR : ClassId} {zk : Nat → Nat} {zf : Value} {lay : Nat → Nat} (hzf : zf = .null ∨ ∃ a, zf = .ref a) : nt_isD (nt_w14 D cI cR zk zf lay) := by
  refine ⟨rfl, Nat.le_refl 14, fun k h1 h2 h7 => ?_, hzf⟩
  show (if k = 0 then _ else if k = 7 then _ else nt_EX lay 0 (fun _ => 0) cI cR k) = _
  rw [if_neg (by omega), if_neg h7]
  rcases (show k = 1 ∨ k = 2 ∨ k = 3 ∨ k = 4 ∨ k = 5 ∨ k = 6 ∨ k = 8 ∨ k = 9 ∨ k = 10 ∨ k = 11 ∨ k = 12 ∨ k = 13 by omega) with rfl | rfl | rfl | rfl | rfl | rfl | rfl | rfl | rfl | rfl | rfl | rfl <;> rfl
def nt_g0 : nt_T := fun _ _ => 0
/-- what the first text leaves: behind made and add -/
def nt_pg14 (g : nt_T) (p t : Int32) (row : Nat → Int32) : nt_T := fun k => if k = 14 then (fun j => if j = 1 then p else if j = 2 then t else 0) else if k = 15 then row else g k
set_option maxRecDepth 100000 in
set_option maxHeartbeats 4000000 in
/-- the first text is put, read, kept -/
theorem mid_Nt {p : Program} {l : Launch} {e : Env} {s : State} {m : MethodId} {args : Array Value} {below : List Frame} {meth : Method} {c : Code} {A : Nat → Prop} {Q : State → Prop} {D : va_G} {cI cR : ClassId} {zk : Nat → Nat} {zf : Value} {lay : Nat → Nat} (hzf : zf = .null ∨ ∃ a, zf = .ref a) (X : nt_X cX8_init 1 RX8 none (nt_w14 D cI cR zk zf lay) A p s m args meth c) {ga gb gc : nt_T} (hpf : fRd_putFirstText nt_g0 = some ga) (hrd : fRd_reads ga = some (1, gb)) (hs0 : ¬ gb 10 7 < 0) (hs9 : (gb 10 7).toNatClampNeg ≤ 160) (h63 : gb 6 3 = 0) (hem : fRd_empty (nt_st (nt_pg14 gb (gb 13 (Int32.toNatClampNeg 1)) (gb 13 (Int32.toNatClampNeg 2)) (va_cpy (gb 12) (fun _ => 0) (Int32.toNatClampNeg 0) (Int32.toNatClampNeg 0) (gb 10 7).toNatClampNeg)) 6 3 (gb 6 3 + 1)) = some gc) (hEnd : ∀ ra q2 : Nat, nt_G p l e ({ frames := 90, cells := 100, slots := 3000, locals := 5400 }) s m args below meth c (nt_w7 (nt_push (nt_w14 D cI cR zk zf lay) ra q2 (gb 10 7).toNatClampNeg) cR (fun i => if i < 1 then some ra else none)) A 15 579 Q 1 76 [(0, .ref (lay 0))] [] gc) : nt_G p l e ({ frames := 90, cells := 100, slots := 3000, locals := 5400 }) s m args below meth c (nt_w14 D cI cR zk zf lay) A 13 416 Q 1 37 [(0, .ref (lay 0))] [] nt_g0 := by
  have hwD : nt_isD (nt_w14 D cI cR zk zf lay) := nt_w14_D hzf
  refine nt_aload_n X dX8_init_37 rfl 0 rfl ?_
  refine nt_get X 0 inX8 (Nat.le_of_ble_eq_true rfl) (tp := fun _ => [.ref (lay 1), .ref (lay 6), .ref (lay 10), .null, .null, .null, .null, .null, .int 0]) rfl rfl (j := 2) (by decide) wd_314 (v := .ref (lay 10)) rfl dX8_init_38 ?_
  refine nt_cVNv X (As := []) 10 (nt_lD hwD (Nat.le_of_ble_eq_true rfl)) (nt_d10 hwD) rfl (cRd_putFirstText hwD hpf) wd_80 nt_nm3 wd_79 wd_1009 wd_4 hd_X1_putFirstText ⟨Nat.le_of_ble_eq_true rfl, Nat.le_of_ble_eq_true rfl⟩ ⟨Nat.le_of_ble_eq_true rfl, Nat.le_of_ble_eq_true rfl⟩ (Nat.le_of_ble_eq_true rfl) rfl dX8_init_41 ?_
  refine nt_aload_n X dX8_init_44 rfl 0 rfl ?_
  refine nt_get X 0 inX8 (Nat.le_of_ble_eq_true rfl) (tp := fun _ => [.ref (lay 1), .ref (lay 6), .ref (lay 10), .null, .null, .null, .null, .null, .int 0]) rfl rfl (j := 2) (by decide) wd_314 (v := .ref (lay 10)) rfl dX8_init_45 ?_
  refine nt_cVNi X (As := []) 10 (nt_lD hwD (Nat.le_of_ble_eq_true rfl)) (nt_d10 hwD) rfl (cRd_reads hwD hrd) wd_128 nt_nm4 wd_127 wd_1011 wd_4 hd_X1_reads ⟨Nat.le_of_ble_eq_true rfl, Nat.le_of_ble_eq_true rfl⟩ ⟨Nat.le_of_ble_eq_true rfl, Nat.le_of_ble_eq_true rfl⟩ (Nat.le_of_ble_eq_true rfl) rfl dX8_init_48 ?_
  refine nt_if_eq X 69 dX8_init_51 (by decide) (fun q => absurd q (by decide)) (fun _ => ?_)
  refine nt_aload_n X dX8_init_54 rfl 0 rfl ?_
  refine nt_get X 0 inX8 (Nat.le_of_ble_eq_true rfl) (tp := fun _ => [.ref (lay 1), .ref (lay 6), .ref (lay 10), .null, .null, .null, .null, .null, .int 0]) rfl rfl (j := 1) (by decide) wd_313 (v := .ref (lay 6)) rfl dX8_init_55 ?_
  refine nt_aload_n X dX8_init_58 rfl 0 rfl ?_
  refine nt_get X 0 inX8 (Nat.le_of_ble_eq_true rfl) (tp := fun _ => [.ref (lay 1), .ref (lay 6), .ref (lay 10), .null, .null, .null, .null, .null, .int 0]) rfl rfl (j := 2) (by decide) wd_314 (v := .ref (lay 10)) rfl dX8_init_59 ?_
  intro H locs ls hP hD hS hl
  have he10 : (nt_W (nt_w14 D cI cR zk zf lay) gb)[10]? = some (lay 10, .inr (1, [.ref (lay 11), .int (gb 10 1), .int (gb 10 2), .int (gb 10 3), .int (gb 10 4), .int (gb 10 5), .ref (lay 12), .int (gb 10 7), .ref (lay 13)])) := by rw [nt_W_at (nt_lD hwD (Nat.le_of_ble_eq_true rfl)), nt_d10 hwD]; rfl
  have hFc := nt_sub_A X hD hS
  refine va_callr (va_runVN (As := []) (rest := [.ref (lay 6)]) (C := RX1) ⟨X.1, X.2.1, X.2.2.1, X.2.2.2.1, X.2.2.2.2.1⟩ (cRd_made l hwD gb hs0 hs9 H.size) ⟨va_cnB 0 X.2.2.2.2.1 (nt_ws_good wd_222) rfl rfl rfl (X.2.2.2.2.2.2.2.2.2.1.2 _ nt_nm5) (X.2.2.2.2.1 _ wd_4) hd_X1_made ⟨Nat.le_of_ble_eq_true rfl, Nat.le_of_ble_eq_true rfl⟩, X.2.2.2.2.1 _ wd_221, X.2.2.2.2.1 _ wd_1020⟩ ⟨nt_blind, va_recv X.2.2.2.2.2.2.2.1 hP (ci := 1) rfl he10, nt_pre X hP hD hS _⟩ rfl rfl hl.1 rfl (lv_room (Nat.le_of_ble_eq_true rfl)) dX8_init_62 ⟨Nat.le_of_ble_eq_true rfl, Nat.le_of_ble_eq_true rfl⟩) hS (fun q _ h => hFc q h) hFc (fun u ra t H1 locs1 ht hvm hw9 hB hz1 hk1 hS1 => ?_)
  obtain ⟨q1, q2⟩ := u
  obtain ⟨rfl, hP1, hD1⟩ := hB
  rw [ht] at hP1
  rw [← nt_push_W (p := (gb 13 (Int32.toNatClampNeg 1))) (t := (gb 13 (Int32.toNatClampNeg 2)))] at hP1 hD1
  have hD1 := hD1.weaken (B := A) (fun _ _ _ h => hFc _ h)
  have hwP := nt_push_D hwD ra q2 (gb 10 7).toNatClampNeg
  have X : nt_X cX8_init 1 RX8 none (nt_push (nt_w14 D cI cR zk zf lay) ra q2 (gb 10 7).toNatClampNeg) A p s m args meth c := X
  have hEr : nt_E (nt_push (nt_w14 D cI cR zk zf lay) ra q2 (gb 10 7).toNatClampNeg) 14 = fun f => .inr (2, [.ref q2, .int (f 1), .int (f 2)]) := rfl
  have e63 : (nt_pg (nt_w14 D cI cR zk zf lay) gb (gb 13 (Int32.toNatClampNeg 1)) (gb 13 (Int32.toNatClampNeg 2)) (va_cpy (gb 12) (fun _ => 0) (Int32.toNatClampNeg 0) (Int32.toNatClampNeg 0) (gb 10 7).toNatClampNeg)) 6 3 = gb 6 3 := rfl
  have hnf : fTx_isFull (nt_pg (nt_w14 D cI cR zk zf lay) gb (gb 13 (Int32.toNatClampNeg 1)) (gb 13 (Int32.toNatClampNeg 2)) (va_cpy (gb 12) (fun _ => 0) (Int32.toNatClampNeg 0) (Int32.toNatClampNeg 0) (gb 10 7).toNatClampNeg)) = some 0 := by
    unfold fTx_isFull
    rw [e63, h63]
    rfl
  have hadd := cTx_add (l := l) hwP (cR := cR) (rf := fun _ => none) rfl rfl (kr := 14) (Nat.le_of_ble_eq_true rfl) hEr (g := (nt_pg (nt_w14 D cI cR zk zf lay) gb (gb 13 (Int32.toNatClampNeg 1)) (gb 13 (Int32.toNatClampNeg 2)) (va_cpy (gb 12) (fun _ => 0) (Int32.toNatClampNeg 0) (Int32.toNatClampNeg 0) (gb 10 7).toNatClampNeg))) (by rw [e63, h63]; decide) hnf
  have erf : va_up (fun _ => none) ((gb 6 3).toNatClampNeg) (some (nt_a (nt_push (nt_w14 D cI cR zk zf lay) ra q2 (gb 10 7).toNatClampNeg) 14)) = (fun i => if i < 1 then some ra else none) := by
    rw [h63]
    funext i
    by_cases hi : i = 0
    · subst hi
      rfl
    · have h1 : ¬ i < 1 := by omega
      have h0 : ¬ i = (0 : Int32).toNatClampNeg := hi
      simp only [va_up, h0, h1, if_false]
  rw [e63, erf] at hadd
  have hw2 : nt_isD (nt_w7 (nt_push (nt_w14 D cI cR zk zf lay) ra q2 (gb 10 7).toNatClampNeg) cR (fun i => if i < 1 then some ra else none)) := nt_w7_D hwP cR _
  have X2 : nt_X cX8_init 1 RX8 none (nt_w7 (nt_push (nt_w14 D cI cR zk zf lay) ra q2 (gb 10 7).toNatClampNeg) cR (fun i => if i < 1 then some ra else none)) A p s m args meth c := X
  refine (?_ : nt_G p l e ({ frames := 90, cells := 100, slots := 3000, locals := 5400 }) s m args below meth c (nt_push (nt_w14 D cI cR zk zf lay) ra q2 (gb 10 7).toNatClampNeg) A 15 579 Q 1 65 [(0, .ref (lay 0))] [.ref ra, .ref (lay 6)] (nt_pg (nt_w14 D cI cR zk zf lay) gb (gb 13 (Int32.toNatClampNeg 1)) (gb 13 (Int32.toNatClampNeg 2)) (va_cpy (gb 12) (fun _ => 0) (Int32.toNatClampNeg 0) (Int32.toNatClampNeg 0) (gb 10 7).toNatClampNeg))) H1 locs1 ls hP1 hD1 hS1 hl
  refine nt_cVNi2 X (As := [.ref ra]) (stk := [.ref ra, .ref (lay 6)]) (rest := []) (w2 := (nt_w7 (nt_push (nt_w14 D cI cR zk zf lay) ra q2 (gb 10 7).toNatClampNeg) cR (fun i => if i < 1 then some ra else none))) (fun h => nt_w7_dom h) 6 (nt_lD hwP (Nat.le_of_ble_eq_true rfl)) (nt_d6 hwP) rfl hadd rfl wd_239 nt_nm7 wd_238 wd_1021 wd_3 hd_X7_add ⟨Nat.le_of_ble_eq_true rfl, Nat.le_of_ble_eq_true rfl⟩ ⟨Nat.le_of_ble_eq_true rfl, Nat.le_of_ble_eq_true rfl⟩ (Nat.le_of_ble_eq_true rfl) rfl dX8_init_65 ?_
  have X := X2
  refine nt_pop X dX8_init_68 rfl ?_
  refine nt_aload_n X dX8_init_69 rfl 0 rfl ?_
  refine nt_get X 0 inX8 (Nat.le_of_ble_eq_true rfl) (tp := fun _ => [.ref (lay 1), .ref (lay 6), .ref (lay 10), .null, .null, .null, .null, .null, .int 0]) rfl rfl (j := 2) (by decide) wd_314 (v := .ref (lay 10)) rfl dX8_init_70 ?_
  refine nt_cVNv X (As := []) 10 (nt_lD hw2 (Nat.le_of_ble_eq_true rfl)) (nt_d10 hw2) rfl (cRd_empty hw2 hem) wd_244 nt_nm8 wd_243 wd_1023 wd_4 hd_X1_empty ⟨Nat.le_of_ble_eq_true rfl, Nat.le_of_ble_eq_true rfl⟩ ⟨Nat.le_of_ble_eq_true rfl, Nat.le_of_ble_eq_true rfl⟩ (Nat.le_of_ble_eq_true rfl) rfl dX8_init_73 ?_
  exact hEnd ra q2
set_option maxRecDepth 100000 in
set_option maxHeartbeats 4000000 in
theorem ctor_Nt (l : Launch) (D : va_G) (cI : ClassId) (zk : Nat → Nat) (zf : Value) (hzf : zf = .null ∨ ∃ a, zf = .ref a) (h0 sz : Nat) {ga gb gc : nt_T} (hpf : fRd_putFirstText nt_g0 = some ga) (hrd : fRd_reads ga = some (1, gb)) (hs0 : ¬ gb 10 7 < 0) (hs9 : (gb 10 7).toNatClampNeg ≤ 160) (h63 : gb 6 3 = 0) (hem : fRd_empty (nt_st (nt_pg14 gb (gb 13 (Int32.toNatClampNeg 1)) (gb 13 (Int32.toNatClampNeg 2)) (va_cpy (gb 12) (fun _ => 0) (Int32.toNatClampNeg 0) (Int32.toNatClampNeg 0) (gb 10 7).toNatClampNeg)) 6 3 (gb 6 3 + 1)) = some gc) : Met l yX8_init (nt_ws yX8_init cX8_init 1 none) ({ frames := 90, cells := 100, slots := 3000, locals := 5400 }) (va_Pc [.ref h0] (fun U => U.heap.size = sz ∧ va_P D vwCl [(h0, .inr (7, [.null, .null, .null, .null, .null, .null, .null, .null, .int 0]))] U.heap ∧ va_K D vwCl [(cI, .int)] U ∧ va_D (fun _ => True) [(h0, .inr (7, [.null, .null, .null, .null, .null, .null, .null, .null, .int 0]))] ∧ nt_Z zk zf (va_A [(h0, .inr (7, [.null, .null, .null, .null, .null, .null, .null, .null, .int 0]))] sz) U U.heap ∧ va_AO RX2 U)) (va_Qv (fun (_ : nt_w × nt_T) => True) (fun u t => nt_isR u.1 1 (fun _ => 0) ∧ va_P D vwCl (nt_W u.1 u.2) t.heap ∧ va_D (va_A [(h0, .inr (7, [.null, .null, .null, .null, .null, .null, .null, .null, .int 0]))] sz) (nt_W u.1 u.2)) (va_A [(h0, .inr (7, [.null, .null, .null, .null, .null, .null, .null, .null, .int 0]))] sz)) 100 3000 (va_A [(h0, .inr (7, [.null, .null, .null, .null, .null, .null, .null, .null, .int 0]))] sz) := by
  refine Met.ofW (cc := cX8_init) (maxL := 1) (ret := none) (by decide) rfl ?_
  intro p e s m args below meth c s₁ B hml hv
  obtain ⟨rfl, hsz, hP, hK, hD0, hZ, hAO⟩ := hv
  have hx := B.exec
  have hb := B.bytes
  have hr := B.returns
  have hts0 := atoms_spec (ws := nt_ws yX8_init cX8_init 1 none) B.pre
  have hts : ∀ q ∈ nt_tbl, q.before [.ref h0].toArray s = true := fun q hq => hts0 q (List.mem_cons_of_mem _ hq)
  have hown : s.vm.findClass RX8 = some m.cls := findClass_of_methodNamed B.named
  have hlocks := B.notSynchronized
  have hin : meth.name = "<init>" := (name_of_methodNamed B.named B.method).1
  subst hsz
  have hD := hD0.self (sz := s.heap.size)
  generalize hAe : va_A [(h0, .inr (7, [.null, .null, .null, .null, .null, .null, .null, .null, .int 0]))] s.heap.size = A at hD hZ ⊢
  have hA : ∀ q : Nat, s.heap.size ≤ q → A q := fun q h => by rw [← hAe]; exact Or.inr h
  have hS : va_S A s.heap s.heap [] := va_S.rf
  have hP : va_P D vwCl [(h0, .inr (7, [.null, .null, .null, .null, .null, .null, .null, .null, .int 0]))] s.heap := hP
  have hAOv : ∀ U : State, s.WarmedH U.vm → va_AO RX2 U := fun U hW => va_AO.moved hW.alike hAO
  have hAOb : ∀ (C : String) (U : State) (gf : JFrame) (mk : MethodId) (a : Array Value), va_AO C U → va_AO C (U.calling gf mk a) := fun C U gf mk a h => va_AO.moved (u := U) (U := U.calling gf mk a) (Vm.Alike.refl U.vm) h
  have hl := lv_entry ([.ref h0]) (n := 1) (Nat.le_of_ble_eq_true rfl)
  rw [lg_entry_eq]
  generalize (lg_sl ([.ref h0]) ++ List.replicate (1 - (lg_sl ([.ref h0])).length) Slot.unset).toArray = ls at hl ⊢
  have hl : lv_has ls 1 [(0, .ref h0)] := hl
  refine lv_aload_n hx hb dX8_init_0 rfl (lv_at hl 0 rfl) ?_
  refine W.objInit hx hb hown (hts _ wd_23) (hts _ wd_24) (hts _ wd_25) rfl (by rw [hml]; exact hl.1) rfl dX8_init_1 (Nat.le_of_ble_eq_true rfl) (Nat.le_of_ble_eq_true rfl) ?_
  refine W.eq (g2 := F0 m 4 ls []) rfl ?_
  refine lv_aload_n hx hb dX8_init_4 rfl (lv_at hl 0 rfl) ?_
  refine va_new (ci := 5) (fs := [.null, .null, .null, .null, .int 0]) (C := RX5) (T := TX5) (N := 5) hx hb hts inX5 tyX5 tyX5_ok hown (hts _ wd_26) (hts _ wd_27) (hts _ wd_2) hK hP hD hS hA rfl (fun j hj => by rcases (show j = 0 ∨ j = 1 ∨ j = 2 ∨ j = 3 ∨ j = 4 by omega) with rfl | rfl | rfl | rfl | rfl <;> rfl) (Nat.le_of_ble_eq_true rfl) (Nat.le_of_ble_eq_true rfl) dX8_init_5 (fun bs H hP hD hS => ?_)
  have hP : va_P D vwCl [(h0, .inr (7, [.null, .null, .null, .null, .null, .null, .null, .null, .int 0])), (bs, .inr (5, [.null, .null, .null, .null, .int 0]))] H := hP
  have hD : va_D A [(h0, .inr (7, [.null, .null, .null, .null, .null, .null, .null, .null, .int 0])), (bs, .inr (5, [.null, .null, .null, .null, .int 0]))] := hD
  refine W.widen (k := 1) (n := 5) (by omega) (by omega) ?_
  refine lv_dup hx hb dX8_init_8 rfl ?_
  have hPc := hP.sub (ws' := [(bs, .inr (5, [.null, .null, .null, .null, .int 0]))]) [1] rfl
  have hDc := hD.sub (ws' := [(bs, .inr (5, [.null, .null, .null, .null, .int 0]))]) [1] (by decide) rfl
  have hKc := hK.sub (tys' := [(cI, .int)]) [0] rfl
  have hFc := va_free (wc := [(bs, .inr (5, [.null, .null, .null, .null, .int 0]))]) hD hS hA [1] rfl
  refine va_callv (va_runIN (As := []) (rest := [.ref bs, .ref h0]) ⟨hx, hb, hml, hown, hts⟩ (ctor_Sh l D cI bs H.size) ⟨va_cnB 0 hts (nt_ws_good wd_29) rfl rfl rfl (hZ.1.2 _ nt_nm0) (hts _ wd_2) hd_X5_init ⟨Nat.le_of_ble_eq_true rfl, Nat.le_of_ble_eq_true rfl⟩, rfl, hts _ wd_28⟩ ⟨fun a U gf mk q => by obtain ⟨q0, q1, q2, q3, q4⟩ := q; exact ⟨q0, q1, q2, va_K.moved (u := U) (U := U.calling gf mk a) (Vm.Alike.refl U.vm) q3, q4⟩, fun U hU hW => ⟨rfl, by rw [hU], by rw [hU]; exact hPc, va_K.moved hW.alike hKc, hDc.weaken (fun _ _ _ _ => trivial)⟩⟩ rfl rfl hl.1 rfl (lv_room (Nat.le_of_ble_eq_true rfl)) dX8_init_9 ⟨Nat.le_of_ble_eq_true rfl, Nat.le_of_ble_eq_true rfl⟩) hS (fun q _ h => hFc q h) hFc (fun u t H1 locs ht hvm hw hB hz1 hk1 hS => ?_)
  obtain ⟨hP1, hD1⟩ := hB
  rw [ht] at hP1
  obtain ⟨bs1, bs2, bs3, bs4, ez1, ez2, ez3, ez4⟩ : ∃ bs1 bs2 bs3 bs4 : Nat, u 1 = bs1 ∧ u 2 = bs2 ∧ u 3 = bs3 ∧ u 4 = bs4 := ⟨u 1, u 2, u 3, u 4, rfl, rfl, rfl, rfl⟩
  try dsimp only at hP1 hD1
  rw [ez1, ez2, ez3, ez4] at hP1 hD1
  obtain ⟨hP, hD⟩ := va_join (wr := [(h0, .inr (7, [.null, .null, .null, .null, .null, .null, .null, .null, .int 0]))]) (w1 := [(bs, .inr (5, [.ref bs1, .ref bs2, .ref bs3, .ref bs4, .int (0 : Int32)])), (bs1, .inl (cI, 8, .inl (fun _ => 0))), (bs2, .inl (cI, 8, .inl (fun _ => 0))), (bs3, .inl (cI, 8, .inl (fun _ => 0))), (bs4, .inl (cI, 8, .inl (fun _ => 0)))]) hP hD [1] [0] rfl rfl (by decide) (by decide) hk1 hFc hP1 hD1
  generalize H1 = H at hP hS ⊢
  have hP : va_P D vwCl [(h0, .inr (7, [.null, .null, .null, .null, .null, .null, .null, .null, .int 0])), (bs, .inr (5, [.ref bs1, .ref bs2, .ref bs3, .ref bs4, .int (0 : Int32)])), (bs1, .inl (cI, 8, .inl (fun _ => 0))), (bs2, .inl (cI, 8, .inl (fun _ => 0))), (bs3, .inl (cI, 8, .inl (fun _ => 0))), (bs4, .inl (cI, 8, .inl (fun _ => 0)))] H := hP
  have hD : va_D A [(h0, .inr (7, [.null, .null, .null, .null, .null, .null, .null, .null, .int 0])), (bs, .inr (5, [.ref bs1, .ref bs2, .ref bs3, .ref bs4, .int (0 : Int32)])), (bs1, .inl (cI, 8, .inl (fun _ => 0))), (bs2, .inl (cI, 8, .inl (fun _ => 0))), (bs3, .inl (cI, 8, .inl (fun _ => 0))), (bs4, .inl (cI, 8, .inl (fun _ => 0)))] := hD
  refine W.widen (k := 5) (n := 37) (by omega) (by omega) ?_
  refine va_putF (D := D) (ci := 7) (v := .ref bs) (ty := .object "NotTwice$Shelf") (C := RX8) (T := TX8) (N := 9) hx hb hts inX8 tyX8 tyX8_ok nmX8 hown hK hP hD hS 0 rfl rfl 0 (by decide) (hts _ wd_312) (fun _ h9 => h9) rfl hin rfl (by decide +kernel) rfl rfl (Nat.le_of_ble_eq_true rfl) dX8_init_12 (fun H locs hP hD hS => ?_)
  have hP : va_P D vwCl [(h0, .inr (7, [.ref bs, .null, .null, .null, .null, .null, .null, .null, .int 0])), (bs, .inr (5, [.ref bs1, .ref bs2, .ref bs3, .ref bs4, .int (0 : Int32)])), (bs1, .inl (cI, 8, .inl (fun _ => 0))), (bs2, .inl (cI, 8, .inl (fun _ => 0))), (bs3, .inl (cI, 8, .inl (fun _ => 0))), (bs4, .inl (cI, 8, .inl (fun _ => 0)))] H := hP
  have hD : va_D A [(h0, .inr (7, [.ref bs, .null, .null, .null, .null, .null, .null, .null, .int 0])), (bs, .inr (5, [.ref bs1, .ref bs2, .ref bs3, .ref bs4, .int (0 : Int32)])), (bs1, .inl (cI, 8, .inl (fun _ => 0))), (bs2, .inl (cI, 8, .inl (fun _ => 0))), (bs3, .inl (cI, 8, .inl (fun _ => 0))), (bs4, .inl (cI, 8, .inl (fun _ => 0)))] := hD
  refine lv_aload_n hx hb dX8_init_15 rfl (lv_at hl 0 rfl) ?_
  refine va_new (ci := 6) (fs := [.null, .null, .null, .int 0]) (C := RX7) (T := TX7) (N := 4) hx hb hts inX7 tyX7 tyX7_ok hown (hts _ wd_42) (hts _ wd_43) (hts _ wd_3) hK hP hD hS hA rfl (fun j hj => by rcases (show j = 0 ∨ j = 1 ∨ j = 2 ∨ j = 3 by omega) with rfl | rfl | rfl | rfl <;> rfl) (Nat.le_of_ble_eq_true rfl) (Nat.le_of_ble_eq_true rfl) dX8_init_16 (fun bt H hP hD hS => ?_)
  have hP : va_P D vwCl [(h0, .inr (7, [.ref bs, .null, .null, .null, .null, .null, .null, .null, .int 0])), (bs, .inr (5, [.ref bs1, .ref bs2, .ref bs3, .ref bs4, .int (0 : Int32)])), (bs1, .inl (cI, 8, .inl (fun _ => 0))), (bs2, .inl (cI, 8, .inl (fun _ => 0))), (bs3, .inl (cI, 8, .inl (fun _ => 0))), (bs4, .inl (cI, 8, .inl (fun _ => 0))), (bt, .inr (6, [.null, .null, .null, .int 0]))] H := hP
  have hD : va_D A [(h0, .inr (7, [.ref bs, .null, .null, .null, .null, .null, .null, .null, .int 0])), (bs, .inr (5, [.ref bs1, .ref bs2, .ref bs3, .ref bs4, .int (0 : Int32)])), (bs1, .inl (cI, 8, .inl (fun _ => 0))), (bs2, .inl (cI, 8, .inl (fun _ => 0))), (bs3, .inl (cI, 8, .inl (fun _ => 0))), (bs4, .inl (cI, 8, .inl (fun _ => 0))), (bt, .inr (6, [.null, .null, .null, .int 0]))] := hD
  refine W.widen (k := 6) (n := 41) (by omega) (by omega) ?_
  refine lv_dup hx hb dX8_init_19 rfl ?_
  have hPc := hP.sub (ws' := [(bt, .inr (6, [.null, .null, .null, .int 0]))]) [6] rfl
  have hDc := hD.sub (ws' := [(bt, .inr (6, [.null, .null, .null, .int 0]))]) [6] (by decide) rfl
  have hKc := hK.sub (tys' := [(cI, .int)]) [0] rfl
  have hFc := va_free (wc := [(bt, .inr (6, [.null, .null, .null, .int 0]))]) hD hS hA [6] rfl
  refine va_callv (va_runIN (As := []) (rest := [.ref bt, .ref h0]) ⟨hx, hb, hml, hown, hts⟩ (ctor_Tx l D cI bt H.size) ⟨va_cnB 0 hts (nt_ws_good wd_45) rfl rfl rfl (hZ.1.2 _ nt_nm1) (hts _ wd_3) hd_X7_init ⟨Nat.le_of_ble_eq_true rfl, Nat.le_of_ble_eq_true rfl⟩, rfl, hts _ wd_44⟩ ⟨fun a U gf mk q => by obtain ⟨q0, q1, q2, q3, q4, q5⟩ := q; exact ⟨q0, q1, q2, va_K.moved (u := U) (U := U.calling gf mk a) (Vm.Alike.refl U.vm) q3, q4, hAOb _ U gf mk a q5⟩, fun U hU hW => ⟨rfl, by rw [hU], by rw [hU]; exact hPc, va_K.moved hW.alike hKc, hDc.weaken (fun _ _ _ _ => trivial), hAOv U hW⟩⟩ rfl rfl hl.1 rfl (lv_room (Nat.le_of_ble_eq_true rfl)) dX8_init_20 ⟨Nat.le_of_ble_eq_true rfl, Nat.le_of_ble_eq_true rfl⟩) hS (fun q _ h => hFc q h) hFc (fun u t H1 locs ht hvm hw hB hz1 hk1 hS => ?_)
  obtain ⟨hP1, hD1, hK1⟩ := hB
  obtain ⟨u, cR⟩ := u
  have hK : va_K D vwCl [(cI, .int), (cR, .object RX2)] s := va_K.moved hvm.symm hK1
  rw [ht] at hP1
  obtain ⟨bt1, bt2, bt3, ez1, ez2, ez3⟩ : ∃ bt1 bt2 bt3 : Nat, u 1 = bt1 ∧ u 2 = bt2 ∧ u 3 = bt3 := ⟨u 1, u 2, u 3, rfl, rfl, rfl⟩
  try dsimp only at hP1 hD1
  rw [ez1, ez2, ez3] at hP1 hD1
  obtain ⟨hP, hD⟩ := va_join (wr := [(h0, .inr (7, [.ref bs, .null, .null, .null, .null, .null, .null, .null, .int 0])), (bs, .inr (5, [.ref bs1, .ref bs2, .ref bs3, .ref bs4, .int (0 : Int32)])), (bs1, .inl (cI, 8, .inl (fun _ => 0))), (bs2, .inl (cI, 8, .inl (fun _ => 0))), (bs3, .inl (cI, 8, .inl (fun _ => 0))), (bs4, .inl (cI, 8, .inl (fun _ => 0)))]) (w1 := [(bt, .inr (6, [.ref bt1, .ref bt2, .ref bt3, .int (0 : Int32)])), (bt1, .inl (cR, 6, .inr (.inr (.inr (.inr (fun _ => none)))))), (bt2, .inl (cI, 6, .inl (fun _ => 0))), (bt3, .inl (cI, 31, .inl (fun _ => 0)))]) hP hD [6] [0, 1, 2, 3, 4, 5] rfl rfl (by decide) (by decide) hk1 hFc hP1 hD1
  generalize H1 = H at hP hS ⊢
  have hP : va_P D vwCl [(h0, .inr (7, [.ref bs, .null, .null, .null, .null, .null, .null, .null, .int 0])), (bs, .inr (5, [.ref bs1, .ref bs2, .ref bs3, .ref bs4, .int (0 : Int32)])), (bs1, .inl (cI, 8, .inl (fun _ => 0))), (bs2, .inl (cI, 8, .inl (fun _ => 0))), (bs3, .inl (cI, 8, .inl (fun _ => 0))), (bs4, .inl (cI, 8, .inl (fun _ => 0))), (bt, .inr (6, [.ref bt1, .ref bt2, .ref bt3, .int (0 : Int32)])), (bt1, .inl (cR, 6, .inr (.inr (.inr (.inr (fun _ => none)))))), (bt2, .inl (cI, 6, .inl (fun _ => 0))), (bt3, .inl (cI, 31, .inl (fun _ => 0)))] H := hP
  have hD : va_D A [(h0, .inr (7, [.ref bs, .null, .null, .null, .null, .null, .null, .null, .int 0])), (bs, .inr (5, [.ref bs1, .ref bs2, .ref bs3, .ref bs4, .int (0 : Int32)])), (bs1, .inl (cI, 8, .inl (fun _ => 0))), (bs2, .inl (cI, 8, .inl (fun _ => 0))), (bs3, .inl (cI, 8, .inl (fun _ => 0))), (bs4, .inl (cI, 8, .inl (fun _ => 0))), (bt, .inr (6, [.ref bt1, .ref bt2, .ref bt3, .int (0 : Int32)])), (bt1, .inl (cR, 6, .inr (.inr (.inr (.inr (fun _ => none)))))), (bt2, .inl (cI, 6, .inl (fun _ => 0))), (bt3, .inl (cI, 31, .inl (fun _ => 0)))] := hD
  refine W.widen (k := 9) (n := 84) (by omega) (by omega) ?_
  refine va_putF (D := D) (ci := 7) (v := .ref bt) (ty := .object "NotTwice$Texts") (C := RX8) (T := TX8) (N := 9) hx hb hts inX8 tyX8 tyX8_ok nmX8 hown hK hP hD hS 0 rfl rfl 1 (by decide) (hts _ wd_313) (fun _ h9 => h9) rfl hin rfl (by decide +kernel) rfl rfl (Nat.le_of_ble_eq_true rfl) dX8_init_23 (fun H locs hP hD hS => ?_)
  have hP : va_P D vwCl [(h0, .inr (7, [.ref bs, .ref bt, .null, .null, .null, .null, .null, .null, .int 0])), (bs, .inr (5, [.ref bs1, .ref bs2, .ref bs3, .ref bs4, .int (0 : Int32)])), (bs1, .inl (cI, 8, .inl (fun _ => 0))), (bs2, .inl (cI, 8, .inl (fun _ => 0))), (bs3, .inl (cI, 8, .inl (fun _ => 0))), (bs4, .inl (cI, 8, .inl (fun _ => 0))), (bt, .inr (6, [.ref bt1, .ref bt2, .ref bt3, .int (0 : Int32)])), (bt1, .inl (cR, 6, .inr (.inr (.inr (.inr (fun _ => none)))))), (bt2, .inl (cI, 6, .inl (fun _ => 0))), (bt3, .inl (cI, 31, .inl (fun _ => 0)))] H := hP
  have hD : va_D A [(h0, .inr (7, [.ref bs, .ref bt, .null, .null, .null, .null, .null, .null, .int 0])), (bs, .inr (5, [.ref bs1, .ref bs2, .ref bs3, .ref bs4, .int (0 : Int32)])), (bs1, .inl (cI, 8, .inl (fun _ => 0))), (bs2, .inl (cI, 8, .inl (fun _ => 0))), (bs3, .inl (cI, 8, .inl (fun _ => 0))), (bs4, .inl (cI, 8, .inl (fun _ => 0))), (bt, .inr (6, [.ref bt1, .ref bt2, .ref bt3, .int (0 : Int32)])), (bt1, .inl (cR, 6, .inr (.inr (.inr (.inr (fun _ => none)))))), (bt2, .inl (cI, 6, .inl (fun _ => 0))), (bt3, .inl (cI, 31, .inl (fun _ => 0)))] := hD
  refine lv_aload_n hx hb dX8_init_26 rfl (lv_at hl 0 rfl) ?_
  refine va_new (ci := 1) (fs := [.null, .int 0, .int 0, .int 0, .int 0, .int 0, .null, .int 0, .null]) (C := RX1) (T := TX1) (N := 9) hx hb hts inX1 tyX1 tyX1_ok hown (hts _ wd_56) (hts _ wd_57) (hts _ wd_4) hK hP hD hS hA rfl (fun j hj => by rcases (show j = 0 ∨ j = 1 ∨ j = 2 ∨ j = 3 ∨ j = 4 ∨ j = 5 ∨ j = 6 ∨ j = 7 ∨ j = 8 by omega) with rfl | rfl | rfl | rfl | rfl | rfl | rfl | rfl | rfl <;> rfl) (Nat.le_of_ble_eq_true rfl) (Nat.le_of_ble_eq_true rfl) dX8_init_27 (fun br H hP hD hS => ?_)
  have hP : va_P D vwCl [(h0, .inr (7, [.ref bs, .ref bt, .null, .null, .null, .null, .null, .null, .int 0])), (bs, .inr (5, [.ref bs1, .ref bs2, .ref bs3, .ref bs4, .int (0 : Int32)])), (bs1, .inl (cI, 8, .inl (fun _ => 0))), (bs2, .inl (cI, 8, .inl (fun _ => 0))), (bs3, .inl (cI, 8, .inl (fun _ => 0))), (bs4, .inl (cI, 8, .inl (fun _ => 0))), (bt, .inr (6, [.ref bt1, .ref bt2, .ref bt3, .int (0 : Int32)])), (bt1, .inl (cR, 6, .inr (.inr (.inr (.inr (fun _ => none)))))), (bt2, .inl (cI, 6, .inl (fun _ => 0))), (bt3, .inl (cI, 31, .inl (fun _ => 0))), (br, .inr (1, [.null, .int 0, .int 0, .int 0, .int 0, .int 0, .null, .int 0, .null]))] H := hP
  have hD : va_D A [(h0, .inr (7, [.ref bs, .ref bt, .null, .null, .null, .null, .null, .null, .int 0])), (bs, .inr (5, [.ref bs1, .ref bs2, .ref bs3, .ref bs4, .int (0 : Int32)])), (bs1, .inl (cI, 8, .inl (fun _ => 0))), (bs2, .inl (cI, 8, .inl (fun _ => 0))), (bs3, .inl (cI, 8, .inl (fun _ => 0))), (bs4, .inl (cI, 8, .inl (fun _ => 0))), (bt, .inr (6, [.ref bt1, .ref bt2, .ref bt3, .int (0 : Int32)])), (bt1, .inl (cR, 6, .inr (.inr (.inr (.inr (fun _ => none)))))), (bt2, .inl (cI, 6, .inl (fun _ => 0))), (bt3, .inl (cI, 31, .inl (fun _ => 0))), (br, .inr (1, [.null, .int 0, .int 0, .int 0, .int 0, .int 0, .null, .int 0, .null]))] := hD
  refine W.widen (k := 10) (n := 93) (by omega) (by omega) ?_
  refine lv_dup hx hb dX8_init_30 rfl ?_
  have hPc := hP.sub (ws' := [(br, .inr (1, [.null, .int 0, .int 0, .int 0, .int 0, .int 0, .null, .int 0, .null]))]) [10] rfl
  have hDc := hD.sub (ws' := [(br, .inr (1, [.null, .int 0, .int 0, .int 0, .int 0, .int 0, .null, .int 0, .null]))]) [10] (by decide) rfl
  have hKc := hK.sub (tys' := [(cI, .int)]) [0] rfl
  have hFc := va_free (wc := [(br, .inr (1, [.null, .int 0, .int 0, .int 0, .int 0, .int 0, .null, .int 0, .null]))]) hD hS hA [10] rfl
  refine va_callv (va_runIN (As := []) (rest := [.ref br, .ref h0]) ⟨hx, hb, hml, hown, hts⟩ (ctor_Rd l D cI br H.size) ⟨va_cnB 0 hts (nt_ws_good wd_59) rfl rfl rfl (hZ.1.2 _ nt_nm2) (hts _ wd_4) hd_X1_init ⟨Nat.le_of_ble_eq_true rfl, Nat.le_of_ble_eq_true rfl⟩, rfl, hts _ wd_58⟩ ⟨fun a U gf mk q => by obtain ⟨q0, q1, q2, q3, q4⟩ := q; exact ⟨q0, q1, q2, va_K.moved (u := U) (U := U.calling gf mk a) (Vm.Alike.refl U.vm) q3, q4⟩, fun U hU hW => ⟨rfl, by rw [hU], by rw [hU]; exact hPc, va_K.moved hW.alike hKc, hDc.weaken (fun _ _ _ _ => trivial)⟩⟩ rfl rfl hl.1 rfl (lv_room (Nat.le_of_ble_eq_true rfl)) dX8_init_31 ⟨Nat.le_of_ble_eq_true rfl, Nat.le_of_ble_eq_true rfl⟩) hS (fun q _ h => hFc q h) hFc (fun u t H1 locs ht hvm hw hB hz1 hk1 hS => ?_)
  obtain ⟨hP1, hD1⟩ := hB
  rw [ht] at hP1
  obtain ⟨br1, br2, br3, ez1, ez2, ez3⟩ : ∃ br1 br2 br3 : Nat, u 1 = br1 ∧ u 2 = br2 ∧ u 3 = br3 := ⟨u 1, u 2, u 3, rfl, rfl, rfl⟩
  try dsimp only at hP1 hD1
  rw [ez1, ez2, ez3] at hP1 hD1
  obtain ⟨hP, hD⟩ := va_join (wr := [(h0, .inr (7, [.ref bs, .ref bt, .null, .null, .null, .null, .null, .null, .int 0])), (bs, .inr (5, [.ref bs1, .ref bs2, .ref bs3, .ref bs4, .int (0 : Int32)])), (bs1, .inl (cI, 8, .inl (fun _ => 0))), (bs2, .inl (cI, 8, .inl (fun _ => 0))), (bs3, .inl (cI, 8, .inl (fun _ => 0))), (bs4, .inl (cI, 8, .inl (fun _ => 0))), (bt, .inr (6, [.ref bt1, .ref bt2, .ref bt3, .int (0 : Int32)])), (bt1, .inl (cR, 6, .inr (.inr (.inr (.inr (fun _ => none)))))), (bt2, .inl (cI, 6, .inl (fun _ => 0))), (bt3, .inl (cI, 31, .inl (fun _ => 0)))]) (w1 := [(br, .inr (1, [.ref br1, .int (0 : Int32), .int (0 : Int32), .int (0 : Int32), .int (0 : Int32), .int (0 : Int32), .ref br2, .int (0 : Int32), .ref br3])), (br1, .inl (cI, 160, .inl (fun _ => 0))), (br2, .inl (cI, 160, .inl (fun _ => 0))), (br3, .inl (cI, 3, .inl (fun _ => 0)))]) hP hD [10] [0, 1, 2, 3, 4, 5, 6, 7, 8, 9] rfl rfl (by decide) (by decide) hk1 hFc hP1 hD1
  generalize H1 = H at hP hS ⊢
  have hP : va_P D vwCl [(h0, .inr (7, [.ref bs, .ref bt, .null, .null, .null, .null, .null, .null, .int 0])), (bs, .inr (5, [.ref bs1, .ref bs2, .ref bs3, .ref bs4, .int (0 : Int32)])), (bs1, .inl (cI, 8, .inl (fun _ => 0))), (bs2, .inl (cI, 8, .inl (fun _ => 0))), (bs3, .inl (cI, 8, .inl (fun _ => 0))), (bs4, .inl (cI, 8, .inl (fun _ => 0))), (bt, .inr (6, [.ref bt1, .ref bt2, .ref bt3, .int (0 : Int32)])), (bt1, .inl (cR, 6, .inr (.inr (.inr (.inr (fun _ => none)))))), (bt2, .inl (cI, 6, .inl (fun _ => 0))), (bt3, .inl (cI, 31, .inl (fun _ => 0))), (br, .inr (1, [.ref br1, .int (0 : Int32), .int (0 : Int32), .int (0 : Int32), .int (0 : Int32), .int (0 : Int32), .ref br2, .int (0 : Int32), .ref br3])), (br1, .inl (cI, 160, .inl (fun _ => 0))), (br2, .inl (cI, 160, .inl (fun _ => 0))), (br3, .inl (cI, 3, .inl (fun _ => 0)))] H := hP
  have hD : va_D A [(h0, .inr (7, [.ref bs, .ref bt, .null, .null, .null, .null, .null, .null, .int 0])), (bs, .inr (5, [.ref bs1, .ref bs2, .ref bs3, .ref bs4, .int (0 : Int32)])), (bs1, .inl (cI, 8, .inl (fun _ => 0))), (bs2, .inl (cI, 8, .inl (fun _ => 0))), (bs3, .inl (cI, 8, .inl (fun _ => 0))), (bs4, .inl (cI, 8, .inl (fun _ => 0))), (bt, .inr (6, [.ref bt1, .ref bt2, .ref bt3, .int (0 : Int32)])), (bt1, .inl (cR, 6, .inr (.inr (.inr (.inr (fun _ => none)))))), (bt2, .inl (cI, 6, .inl (fun _ => 0))), (bt3, .inl (cI, 31, .inl (fun _ => 0))), (br, .inr (1, [.ref br1, .int (0 : Int32), .int (0 : Int32), .int (0 : Int32), .int (0 : Int32), .int (0 : Int32), .ref br2, .int (0 : Int32), .ref br3])), (br1, .inl (cI, 160, .inl (fun _ => 0))), (br2, .inl (cI, 160, .inl (fun _ => 0))), (br3, .inl (cI, 3, .inl (fun _ => 0)))] := hD
  refine W.widen (k := 13) (n := 416) (by omega) (by omega) ?_
  refine va_putF (D := D) (ci := 7) (v := .ref br) (ty := .object "NotTwice$Reader") (C := RX8) (T := TX8) (N := 9) hx hb hts inX8 tyX8 tyX8_ok nmX8 hown hK hP hD hS 0 rfl rfl 2 (by decide) (hts _ wd_314) (fun _ h9 => h9) rfl hin rfl (by decide +kernel) rfl rfl (Nat.le_of_ble_eq_true rfl) dX8_init_34 (fun H locs hP hD hS => ?_)
  have hP : va_P D vwCl [(h0, .inr (7, [.ref bs, .ref bt, .ref br, .null, .null, .null, .null, .null, .int 0])), (bs, .inr (5, [.ref bs1, .ref bs2, .ref bs3, .ref bs4, .int (0 : Int32)])), (bs1, .inl (cI, 8, .inl (fun _ => 0))), (bs2, .inl (cI, 8, .inl (fun _ => 0))), (bs3, .inl (cI, 8, .inl (fun _ => 0))), (bs4, .inl (cI, 8, .inl (fun _ => 0))), (bt, .inr (6, [.ref bt1, .ref bt2, .ref bt3, .int (0 : Int32)])), (bt1, .inl (cR, 6, .inr (.inr (.inr (.inr (fun _ => none)))))), (bt2, .inl (cI, 6, .inl (fun _ => 0))), (bt3, .inl (cI, 31, .inl (fun _ => 0))), (br, .inr (1, [.ref br1, .int (0 : Int32), .int (0 : Int32), .int (0 : Int32), .int (0 : Int32), .int (0 : Int32), .ref br2, .int (0 : Int32), .ref br3])), (br1, .inl (cI, 160, .inl (fun _ => 0))), (br2, .inl (cI, 160, .inl (fun _ => 0))), (br3, .inl (cI, 3, .inl (fun _ => 0)))] H := hP
  have hD : va_D A [(h0, .inr (7, [.ref bs, .ref bt, .ref br, .null, .null, .null, .null, .null, .int 0])), (bs, .inr (5, [.ref bs1, .ref bs2, .ref bs3, .ref bs4, .int (0 : Int32)])), (bs1, .inl (cI, 8, .inl (fun _ => 0))), (bs2, .inl (cI, 8, .inl (fun _ => 0))), (bs3, .inl (cI, 8, .inl (fun _ => 0))), (bs4, .inl (cI, 8, .inl (fun _ => 0))), (bt, .inr (6, [.ref bt1, .ref bt2, .ref bt3, .int (0 : Int32)])), (bt1, .inl (cR, 6, .inr (.inr (.inr (.inr (fun _ => none)))))), (bt2, .inl (cI, 6, .inl (fun _ => 0))), (bt3, .inl (cI, 31, .inl (fun _ => 0))), (br, .inr (1, [.ref br1, .int (0 : Int32), .int (0 : Int32), .int (0 : Int32), .int (0 : Int32), .int (0 : Int32), .ref br2, .int (0 : Int32), .ref br3])), (br1, .inl (cI, 160, .inl (fun _ => 0))), (br2, .inl (cI, 160, .inl (fun _ => 0))), (br3, .inl (cI, 3, .inl (fun _ => 0)))] := hD
  have X14 : nt_X cX8_init 1 RX8 none (nt_w14 D cI cR zk zf (fun k => ([h0, bs, bs1, bs2, bs3, bs4, bt, bt1, bt2, bt3, br, br1, br2, br3] : List Nat).getD k 0)) A p s m [.ref h0].toArray meth c := ⟨hx, hb, hml, hown, hts, hlocks, hr, hK, hA, hZ⟩
  have hP : va_P D vwCl (nt_W (nt_w14 D cI cR zk zf (fun k => ([h0, bs, bs1, bs2, bs3, bs4, bt, bt1, bt2, bt3, br, br1, br2, br3] : List Nat).getD k 0)) nt_g0) H := hP
  have hD : va_D A (nt_W (nt_w14 D cI cR zk zf (fun k => ([h0, bs, bs1, bs2, bs3, bs4, bt, bt1, bt2, bt3, br, br1, br2, br3] : List Nat).getD k 0)) nt_g0) := hD
  refine mid_Nt hzf X14 hpf hrd hs0 hs9 h63 hem (fun ra q2 => ?_) H locs ls hP hD hS hl
  clear hP hD hS hl
  intro H locs ls hP hD hS hl
  sorry
