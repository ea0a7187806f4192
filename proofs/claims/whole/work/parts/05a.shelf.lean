def fJi_bitCount_0f7a4 (x0 : Int32) (g : nt_T) : Option (Int32) :=
  nt_lt (x0 - ((nt_ushr x0 (1 : Int32)) &&& (1431655765 : Int32))) fun v1 => nt_lt ((v1 &&& (858993459 : Int32)) + ((nt_ushr v1 (2 : Int32)) &&& (858993459 : Int32))) fun v2 => nt_lt ((v2 + (nt_ushr v2 (4 : Int32))) &&& (252645135 : Int32)) fun v3 => nt_lt (v3 + (nt_ushr v3 (8 : Int32))) fun v4 => nt_lt (v4 + (nt_ushr v4 (16 : Int32))) fun v5 => some (v5 &&& (63 : Int32))
set_option maxRecDepth 100000 in
set_option maxHeartbeats 4000000 in
theorem cJi_bitCount_0f7a4 {l : Launch} {w : nt_w} (hw : nt_isX w) {x0 : Int32} {g : nt_T} {r : Int32} (hf : fJi_bitCount_0f7a4 x0 g = some r) : nt_Mi l w yJ6_bitCount_0f7a4 cJ6_bitCount_0f7a4 1 (some .int) 1 [.int x0] g r g := by
  refine nt_Mi_of (by decide) (Nat.le_of_ble_eq_true rfl) (fun p e s m args below meth c A X => ?_)
  have X : nt_X cJ6_bitCount_0f7a4 1 RJ6 (some .int) w A p s m args meth c := X
  have hg : g = g := rfl
  have h : nt_R (fJi_bitCount_0f7a4 x0 g) (fun z => z = r) := ⟨_, hf, rfl⟩
  unfold fJi_bitCount_0f7a4 at h
  show nt_G p l e (nt_rm 1) s m args below meth c w A 0 0 (nt_Qi w A below args s r g) 1 0 [(0, .int x0)] [] g
  refine nt_iload_n X dJ6_bitCount_0f7a4_0 rfl 0 rfl ?_
  refine nt_iload_n X dJ6_bitCount_0f7a4_1 rfl 0 rfl ?_
  refine nt_iconst X dJ6_bitCount_0f7a4_2 nt_ci_1 ?_
  refine nt_iushr X (v := (nt_ushr x0 (1 : Int32))) dJ6_bitCount_0f7a4_3 rfl ?_
  refine nt_ldcw X wd_439 dJ6_bitCount_0f7a4_4 ?_
  refine nt_iand X dJ6_bitCount_0f7a4_7 ?_
  refine nt_isub X dJ6_bitCount_0f7a4_8 ?_
  obtain ⟨v1, ev1, h⟩ := nt_R_lt h
  refine nt_topi ev1 ?_
  refine nt_istore_n X [(0, .int v1)] dJ6_bitCount_0f7a4_9 rfl (by decide) rfl ?_
  refine nt_iload_n X dJ6_bitCount_0f7a4_10 rfl 0 rfl ?_
  refine nt_ldcw X wd_440 dJ6_bitCount_0f7a4_11 ?_
  refine nt_iand X dJ6_bitCount_0f7a4_14 ?_
  refine nt_iload_n X dJ6_bitCount_0f7a4_15 rfl 0 rfl ?_
  refine nt_iconst X dJ6_bitCount_0f7a4_16 nt_ci_2 ?_
  refine nt_iushr X (v := (nt_ushr v1 (2 : Int32))) dJ6_bitCount_0f7a4_17 rfl ?_
  refine nt_ldcw X wd_440 dJ6_bitCount_0f7a4_18 ?_
  refine nt_iand X dJ6_bitCount_0f7a4_21 ?_
  refine nt_iadd X dJ6_bitCount_0f7a4_22 ?_
  obtain ⟨v2, ev2, h⟩ := nt_R_lt h
  refine nt_topi ev2 ?_
  refine nt_istore_n X [(0, .int v2)] dJ6_bitCount_0f7a4_23 rfl (by decide) rfl ?_
  refine nt_iload_n X dJ6_bitCount_0f7a4_24 rfl 0 rfl ?_
  refine nt_iload_n X dJ6_bitCount_0f7a4_25 rfl 0 rfl ?_
  refine nt_iconst X dJ6_bitCount_0f7a4_26 nt_ci_4 ?_
  refine nt_iushr X (v := (nt_ushr v2 (4 : Int32))) dJ6_bitCount_0f7a4_27 rfl ?_
  refine nt_iadd X dJ6_bitCount_0f7a4_28 ?_
  refine nt_ldcw X wd_441 dJ6_bitCount_0f7a4_29 ?_
  refine nt_iand X dJ6_bitCount_0f7a4_32 ?_
  obtain ⟨v3, ev3, h⟩ := nt_R_lt h
  refine nt_topi ev3 ?_
  refine nt_istore_n X [(0, .int v3)] dJ6_bitCount_0f7a4_33 rfl (by decide) rfl ?_
  refine nt_iload_n X dJ6_bitCount_0f7a4_34 rfl 0 rfl ?_
  refine nt_iload_n X dJ6_bitCount_0f7a4_35 rfl 0 rfl ?_
  refine nt_bipush X dJ6_bitCount_0f7a4_36 nt_cb_8 ?_
  refine nt_iushr X (v := (nt_ushr v3 (8 : Int32))) dJ6_bitCount_0f7a4_38 rfl ?_
  refine nt_iadd X dJ6_bitCount_0f7a4_39 ?_
  obtain ⟨v4, ev4, h⟩ := nt_R_lt h
  refine nt_topi ev4 ?_
  refine nt_istore_n X [(0, .int v4)] dJ6_bitCount_0f7a4_40 rfl (by decide) rfl ?_
  refine nt_iload_n X dJ6_bitCount_0f7a4_41 rfl 0 rfl ?_
  refine nt_iload_n X dJ6_bitCount_0f7a4_42 rfl 0 rfl ?_
  refine nt_bipush X dJ6_bitCount_0f7a4_43 nt_cb_16 ?_
  refine nt_iushr X (v := (nt_ushr v4 (16 : Int32))) dJ6_bitCount_0f7a4_45 rfl ?_
  refine nt_iadd X dJ6_bitCount_0f7a4_46 ?_
  obtain ⟨v5, ev5, h⟩ := nt_R_lt h
  refine nt_topi ev5 ?_
  refine nt_istore_n X [(0, .int v5)] dJ6_bitCount_0f7a4_47 rfl (by decide) rfl ?_
  refine nt_iload_n X dJ6_bitCount_0f7a4_48 rfl 0 rfl ?_
  refine nt_bipush X dJ6_bitCount_0f7a4_49 nt_cb_63 ?_
  refine nt_iand X dJ6_bitCount_0f7a4_51 ?_
  have h := nt_R_some h
  exact nt_iret X dJ6_bitCount_0f7a4_52 (nt_pe h hg)
def fNt_isBelow (x0 : Int32) (x1 : Int32) (g : nt_T) : Option (Int32) :=
  (if x0 < 0 then
    (some (0 : Int32))
  else
    ((if x1 ≤ x0 then
    (some (0 : Int32))
  else
    (some (1 : Int32)))))
set_option maxRecDepth 100000 in
set_option maxHeartbeats 4000000 in
theorem cNt_isBelow {l : Launch} {w : nt_w} (hw : nt_isX w) {x0 : Int32} {x1 : Int32} {g : nt_T} {r : Int32} (hf : fNt_isBelow x0 x1 g = some r) : nt_Mi l w yX8_isBelow cX8_isBelow 2 (some .boolean) 1 [.int x0, .int x1] g r g := by
  refine nt_Mi_of (by decide) (Nat.le_of_ble_eq_true rfl) (fun p e s m args below meth c A X => ?_)
  have X : nt_X cX8_isBelow 2 RX8 (some .boolean) w A p s m args meth c := X
  have hg : g = g := rfl
  have h : nt_R (fNt_isBelow x0 x1 g) (fun z => z = r) := ⟨_, hf, rfl⟩
  unfold fNt_isBelow at h
  show nt_G p l e (nt_rm 1) s m args below meth c w A 0 0 (nt_Qi w A below args s r g) 2 0 [(0, .int x0), (1, .int x1)] [] g
  refine nt_iload_n X dX8_isBelow_0 rfl 0 rfl ?_
  obtain ⟨ht, hf⟩ := nt_R_if h
  refine nt_if_lt X 13 dX8_isBelow_1 (by decide) (fun q1 => ?_) (fun q1 => ?_)
  · have h := ht q1
    refine nt_iconst X dX8_isBelow_13 nt_ci_0 ?_
    have h := nt_R_some h
    exact nt_zret X rfl dX8_isBelow_14 (nt_pe h hg)
  · have h := hf q1
    refine nt_iload_n X dX8_isBelow_4 rfl 0 rfl ?_
    refine nt_iload_n X dX8_isBelow_5 rfl 1 rfl ?_
    obtain ⟨ht, hf⟩ := nt_R_if h
    refine nt_icmp_ge X 13 dX8_isBelow_6 (by decide) (fun q2 => ?_) (fun q2 => ?_)
    · have h := ht q2
      refine nt_iconst X dX8_isBelow_13 nt_ci_0 ?_
      have h := nt_R_some h
      exact nt_zret X rfl dX8_isBelow_14 (nt_pe h hg)
    · have h := hf q2
      refine nt_iconst X dX8_isBelow_9 nt_ci_1 ?_
      refine nt_goto X 14 dX8_isBelow_10 (by decide) ?_
      have h := nt_R_some h
      exact nt_zret X rfl dX8_isBelow_14 (nt_pe h hg)
def fNt_isHouse (x0 : Int32) (g : nt_T) : Option (Int32) :=
  nt_b1 (fNt_isBelow x0 (4 : Int32) g) fun r1 => nt_gd (decide (narrow .boolean (.int r1) = .int r1)) <| some r1
set_option maxRecDepth 100000 in
set_option maxHeartbeats 4000000 in
theorem cNt_isHouse {l : Launch} {w : nt_w} (hw : nt_isX w) {x0 : Int32} {g : nt_T} {r : Int32} (hf : fNt_isHouse x0 g = some r) : nt_Mi l w yX8_isHouse cX8_isHouse 1 (some .boolean) 3 [.int x0] g r g := by
  refine nt_Mi_of (by decide) (Nat.le_of_ble_eq_true rfl) (fun p e s m args below meth c A X => ?_)
  have X : nt_X cX8_isHouse 1 RX8 (some .boolean) w A p s m args meth c := X
  have hg : g = g := rfl
  have h : nt_R (fNt_isHouse x0 g) (fun z => z = r) := ⟨_, hf, rfl⟩
  unfold fNt_isHouse at h
  show nt_G p l e (nt_rm 3) s m args below meth c w A 0 0 (nt_Qi w A below args s r g) 1 0 [(0, .int x0)] [] g
  refine nt_iload_n X dX8_isHouse_0 rfl 0 rfl ?_
  refine nt_iconst X dX8_isHouse_1 nt_ci_4 ?_
  obtain ⟨r1, er1, h⟩ := nt_R_b1 h
  refine nt_cSi X (As := [.int x0, .int (4 : Int32)]) (cNt_isBelow hw er1) wd_336 wd_334 wd_335 wd_1 hd_X8_isBelow ⟨Nat.le_of_ble_eq_true rfl, Nat.le_of_ble_eq_true rfl⟩ ⟨Nat.le_refl 0, Nat.le_refl 0⟩ (Nat.le_of_ble_eq_true rfl) rfl dX8_isHouse_2 ?_
  obtain ⟨q2, h⟩ := nt_R_gd h
  have h := nt_R_some h
  exact nt_zret X (of_decide_eq_true q2) dX8_isHouse_5 (nt_pe h hg)
def fNt_put (k1 : Nat) (x1 : Int32) (x2 : Int32) (g : nt_T) : Option (Int32 × nt_T) :=
  nt_gd (nt_in x1 9) <| nt_lt (g k1 (Int32.toNatClampNeg x1)) fun v2 => nt_gd (nt_in x1 9) <| nt_lt (nt_st g k1 (Int32.toNatClampNeg x1) x2) fun g4 => some (v2, g4)
set_option maxRecDepth 100000 in
set_option maxHeartbeats 4000000 in
theorem cNt_put {l : Launch} {w : nt_w} (hw : nt_isX w) {k1 : Nat} (hn1 : k1 < nt_n w) (hE1 : nt_E w k1 = fun f => .inl (nt_cI w, 9, .inl f)) {x1 : Int32} {x2 : Int32} {g : nt_T} {r : Int32} {g2 : nt_T} (hf : fNt_put k1 x1 x2 g = some (r, g2)) : nt_Mi l w yX8_put cX8_put 4 (some .int) 1 [.ref (nt_a w k1), .int x1, .int x2] g r g2 := by
  refine nt_Mi_of (by decide) (Nat.le_of_ble_eq_true rfl) (fun p e s m args below meth c A X => ?_)
  have X : nt_X cX8_put 4 RX8 (some .int) w A p s m args meth c := X
  have h : nt_R (fNt_put k1 x1 x2 g) (fun z => z = (r, g2)) := ⟨_, hf, rfl⟩
  unfold fNt_put at h
  show nt_G p l e (nt_rm 1) s m args below meth c w A 0 0 (nt_Qi w A below args s r g2) 4 0 [(0, .ref (nt_a w k1)), (1, .int x1), (2, .int x2)] [] g
  refine nt_aload_n X dX8_put_0 rfl 0 rfl ?_
  refine nt_iload_n X dX8_put_1 rfl 1 rfl ?_
  obtain ⟨q1, h⟩ := nt_R_gd h
  refine nt_iald X k1 0 hn1 hE1 (nt_tX hw) q1 dX8_put_2 ?_
  obtain ⟨v2, ev2, h⟩ := nt_R_lt h
  refine nt_topi ev2 ?_
  refine nt_istore_n X [(3, .int v2), (0, .ref (nt_a w k1)), (1, .int x1), (2, .int x2)] dX8_put_3 rfl (by decide) rfl ?_
  refine nt_aload_n X dX8_put_4 rfl 1 rfl ?_
  refine nt_iload_n X dX8_put_5 rfl 2 rfl ?_
  refine nt_iload_n X dX8_put_6 rfl 3 rfl ?_
  obtain ⟨q3, h⟩ := nt_R_gd h
  refine nt_iast X k1 0 hn1 hE1 (nt_tX hw) q3 dX8_put_7 ?_
  obtain ⟨g4, eg4, h⟩ := nt_R_lt h
  refine nt_geq eg4 ?_
  refine nt_iload_n X dX8_put_8 rfl 0 rfl ?_
  have h := nt_R_some h
  exact nt_iret X dX8_put_9 h
def fSh_has (x1 : Int32) (g : nt_T) : Option (Int32) :=
  nt_b1 (fNt_isBelow x1 (g 1 4) g) fun r1 => nt_gd (decide (narrow .boolean (.int r1) = .int r1)) <| some r1
set_option maxRecDepth 100000 in
set_option maxHeartbeats 4000000 in
theorem cSh_has {l : Launch} {w : nt_w} (hw : nt_isX w) {x1 : Int32} {g : nt_T} {r : Int32} (hf : fSh_has x1 g = some r) : nt_Mi l w yX5_has cX5_has 2 (some .boolean) 3 [.ref (nt_a w 1), .int x1] g r g := by
  refine nt_Mi_of (by decide) (Nat.le_of_ble_eq_true rfl) (fun p e s m args below meth c A X => ?_)
  have X : nt_X cX5_has 2 RX5 (some .boolean) w A p s m args meth c := X
  have hg : g = g := rfl
  have h : nt_R (fSh_has x1 g) (fun z => z = r) := ⟨_, hf, rfl⟩
  unfold fSh_has at h
  show nt_G p l e (nt_rm 3) s m args below meth c w A 0 0 (nt_Qi w A below args s r g) 2 0 [(0, .ref (nt_a w 1)), (1, .int x1)] [] g
  refine nt_iload_n X dX5_has_0 rfl 1 rfl ?_
  refine nt_aload_n X dX5_has_1 rfl 0 rfl ?_
  refine nt_get X 1 inX5 (nt_lX hw (Nat.le_of_ble_eq_true rfl)) (nt_e1 hw) rfl (j := 4) (by decide) wd_35 (v := .int (g 1 4)) rfl dX5_has_2 ?_
  obtain ⟨r1, er1, h⟩ := nt_R_b1 h
  refine nt_cSNi X (As := [.int x1, .int (g 1 4)]) (cNt_isBelow hw er1) wd_336 nt_nm14 wd_335 wd_1 hd_X8_isBelow ⟨Nat.le_of_ble_eq_true rfl, Nat.le_of_ble_eq_true rfl⟩ ⟨Nat.le_refl 0, Nat.le_refl 0⟩ (Nat.le_of_ble_eq_true rfl) rfl dX5_has_5 ?_
  obtain ⟨q2, h⟩ := nt_R_gd h
  have h := nt_R_some h
  exact nt_zret X (of_decide_eq_true q2) dX5_has_8 (nt_pe h hg)
def fSh_all (g : nt_T) : Option (Int32) :=
  some (((1 : Int32) <<< ((g 1 4) &&& 31)) - (1 : Int32))
set_option maxRecDepth 100000 in
set_option maxHeartbeats 4000000 in
theorem cSh_all {l : Launch} {w : nt_w} (hw : nt_isX w) {g : nt_T} {r : Int32} (hf : fSh_all g = some r) : nt_Mi l w yX5_all cX5_all 1 (some .int) 1 [.ref (nt_a w 1)] g r g := by
  refine nt_Mi_of (by decide) (Nat.le_of_ble_eq_true rfl) (fun p e s m args below meth c A X => ?_)
  have X : nt_X cX5_all 1 RX5 (some .int) w A p s m args meth c := X
  have hg : g = g := rfl
  have h : nt_R (fSh_all g) (fun z => z = r) := ⟨_, hf, rfl⟩
  unfold fSh_all at h
  show nt_G p l e (nt_rm 1) s m args below meth c w A 0 0 (nt_Qi w A below args s r g) 1 0 [(0, .ref (nt_a w 1))] [] g
  refine nt_iconst X dX5_all_0 nt_ci_1 ?_
  refine nt_aload_n X dX5_all_1 rfl 0 rfl ?_
  refine nt_get X 1 inX5 (nt_lX hw (Nat.le_of_ble_eq_true rfl)) (nt_e1 hw) rfl (j := 4) (by decide) wd_35 (v := .int (g 1 4)) rfl dX5_all_2 ?_
  refine nt_ishl X dX5_all_5 ?_
  refine nt_iconst X dX5_all_6 nt_ci_1 ?_
  refine nt_isub X dX5_all_7 ?_
  have h := nt_R_some h
  exact nt_iret X dX5_all_8 (nt_pe h hg)
def fSh_add (x1 : Int32) (x2 : Int32) (x3 : Int32) (g : nt_T) : Option (Int32 × nt_T) :=
  (if (g 1 4) < (8 : Int32) then
    (nt_gd (nt_in (g 1 4) 8) <| nt_lt (nt_st g 2 (Int32.toNatClampNeg (g 1 4)) x1) fun g3 => nt_gd (nt_in (g3 1 4) 8) <| nt_lt (nt_st g3 3 (Int32.toNatClampNeg (g3 1 4)) x2) fun g5 => nt_gd (nt_in (g5 1 4) 8) <| nt_lt (nt_st g5 4 (Int32.toNatClampNeg (g5 1 4)) x3) fun g7 => nt_gd (nt_in (g7 1 4) 8) <| nt_lt (nt_st g7 5 (Int32.toNatClampNeg (g7 1 4)) (-1 : Int32)) fun g9 => nt_lt (nt_st g9 1 4 ((g9 1 4) + (1 : Int32))) fun g10 => some (((g10 1 4) - (1 : Int32)), g10))
  else
    (some ((-4 : Int32), g)))
set_option maxRecDepth 100000 in
set_option maxHeartbeats 4000000 in
theorem cSh_add {l : Launch} {w : nt_w} (hw : nt_isX w) {x1 : Int32} {x2 : Int32} {x3 : Int32} {g : nt_T} {r : Int32} {g2 : nt_T} (hf : fSh_add x1 x2 x3 g = some (r, g2)) : nt_Mi l w yX5_add cX5_add 4 (some .int) 1 [.ref (nt_a w 1), .int x1, .int x2, .int x3] g r g2 := by
  refine nt_Mi_of (by decide) (Nat.le_of_ble_eq_true rfl) (fun p e s m args below meth c A X => ?_)
  have X : nt_X cX5_add 4 RX5 (some .int) w A p s m args meth c := X
  have h : nt_R (fSh_add x1 x2 x3 g) (fun z => z = (r, g2)) := ⟨_, hf, rfl⟩
  unfold fSh_add at h
  show nt_G p l e (nt_rm 1) s m args below meth c w A 0 0 (nt_Qi w A below args s r g2) 4 0 [(0, .ref (nt_a w 1)), (1, .int x1), (2, .int x2), (3, .int x3)] [] g
  refine nt_aload_n X dX5_add_0 rfl 0 rfl ?_
  refine nt_get X 1 inX5 (nt_lX hw (Nat.le_of_ble_eq_true rfl)) (nt_e1 hw) rfl (j := 4) (by decide) wd_35 (v := .int (g 1 4)) rfl dX5_add_1 ?_
  refine nt_bipush X dX5_add_4 nt_cb_8 ?_
  obtain ⟨ht, hf⟩ := nt_R_if h
  refine nt_icmp_lt X 12 dX5_add_6 (by decide) (fun q1 => ?_) (fun q1 => ?_)
  · have h := ht q1
    refine nt_aload_n X dX5_add_12 rfl 0 rfl ?_
    refine nt_get X 1 inX5 (nt_lX hw (Nat.le_of_ble_eq_true rfl)) (nt_e1 hw) rfl (j := 0) (by decide) wd_31 (v := .ref (nt_a w 2)) rfl dX5_add_13 ?_
    refine nt_aload_n X dX5_add_16 rfl 0 rfl ?_
    refine nt_get X 1 inX5 (nt_lX hw (Nat.le_of_ble_eq_true rfl)) (nt_e1 hw) rfl (j := 4) (by decide) wd_35 (v := .int (g 1 4)) rfl dX5_add_17 ?_
    refine nt_iload_n X dX5_add_20 rfl 1 rfl ?_
    obtain ⟨q2, h⟩ := nt_R_gd h
    refine nt_iast X 2 0 (nt_lX hw (Nat.le_of_ble_eq_true rfl)) (nt_e2 hw) (nt_tX hw) q2 dX5_add_21 ?_
    obtain ⟨g3, eg3, h⟩ := nt_R_lt h
    refine nt_geq eg3 ?_
    refine nt_aload_n X dX5_add_22 rfl 0 rfl ?_
    refine nt_get X 1 inX5 (nt_lX hw (Nat.le_of_ble_eq_true rfl)) (nt_e1 hw) rfl (j := 1) (by decide) wd_32 (v := .ref (nt_a w 3)) rfl dX5_add_23 ?_
    refine nt_aload_n X dX5_add_26 rfl 0 rfl ?_
    refine nt_get X 1 inX5 (nt_lX hw (Nat.le_of_ble_eq_true rfl)) (nt_e1 hw) rfl (j := 4) (by decide) wd_35 (v := .int (g3 1 4)) rfl dX5_add_27 ?_
    refine nt_iload_n X dX5_add_30 rfl 2 rfl ?_
    obtain ⟨q4, h⟩ := nt_R_gd h
    refine nt_iast X 3 0 (nt_lX hw (Nat.le_of_ble_eq_true rfl)) (nt_e3 hw) (nt_tX hw) q4 dX5_add_31 ?_
    obtain ⟨g5, eg5, h⟩ := nt_R_lt h
    refine nt_geq eg5 ?_
    refine nt_aload_n X dX5_add_32 rfl 0 rfl ?_
    refine nt_get X 1 inX5 (nt_lX hw (Nat.le_of_ble_eq_true rfl)) (nt_e1 hw) rfl (j := 2) (by decide) wd_33 (v := .ref (nt_a w 4)) rfl dX5_add_33 ?_
    refine nt_aload_n X dX5_add_36 rfl 0 rfl ?_
    refine nt_get X 1 inX5 (nt_lX hw (Nat.le_of_ble_eq_true rfl)) (nt_e1 hw) rfl (j := 4) (by decide) wd_35 (v := .int (g5 1 4)) rfl dX5_add_37 ?_
    refine nt_iload_n X dX5_add_40 rfl 3 rfl ?_
    obtain ⟨q6, h⟩ := nt_R_gd h
    refine nt_iast X 4 0 (nt_lX hw (Nat.le_of_ble_eq_true rfl)) (nt_e4 hw) (nt_tX hw) q6 dX5_add_41 ?_
    obtain ⟨g7, eg7, h⟩ := nt_R_lt h
    refine nt_geq eg7 ?_
    refine nt_aload_n X dX5_add_42 rfl 0 rfl ?_
    refine nt_get X 1 inX5 (nt_lX hw (Nat.le_of_ble_eq_true rfl)) (nt_e1 hw) rfl (j := 3) (by decide) wd_34 (v := .ref (nt_a w 5)) rfl dX5_add_43 ?_
    refine nt_aload_n X dX5_add_46 rfl 0 rfl ?_
    refine nt_get X 1 inX5 (nt_lX hw (Nat.le_of_ble_eq_true rfl)) (nt_e1 hw) rfl (j := 4) (by decide) wd_35 (v := .int (g7 1 4)) rfl dX5_add_47 ?_
    refine nt_iconst X dX5_add_50 nt_ci_m1 ?_
    obtain ⟨q8, h⟩ := nt_R_gd h
    refine nt_iast X 5 0 (nt_lX hw (Nat.le_of_ble_eq_true rfl)) (nt_e5 hw) (nt_tX hw) q8 dX5_add_51 ?_
    obtain ⟨g9, eg9, h⟩ := nt_R_lt h
    refine nt_geq eg9 ?_
    refine nt_aload_n X dX5_add_52 rfl 0 rfl ?_
    refine nt_dup X dX5_add_53 rfl ?_
    refine nt_get X 1 inX5 (nt_lX hw (Nat.le_of_ble_eq_true rfl)) (nt_e1 hw) rfl (j := 4) (by decide) wd_35 (v := .int (g9 1 4)) rfl dX5_add_54 ?_
    refine nt_iconst X dX5_add_57 nt_ci_1 ?_
    refine nt_iadd X dX5_add_58 ?_
    refine nt_put X 1 inX5 (nt_lX hw (Nat.le_of_ble_eq_true rfl)) (nt_e1 hw) rfl (j := 4) (by decide) wd_35 tyX5 tyX5_ok nmX5 rfl (ty := .int) rfl rfl rfl (fun _ => Nat.le_of_ble_eq_true rfl) (fun _ => rfl) dX5_add_59 ?_
    obtain ⟨g10, eg10, h⟩ := nt_R_lt h
    refine nt_geq eg10 ?_
    refine nt_aload_n X dX5_add_62 rfl 0 rfl ?_
    refine nt_get X 1 inX5 (nt_lX hw (Nat.le_of_ble_eq_true rfl)) (nt_e1 hw) rfl (j := 4) (by decide) wd_35 (v := .int (g10 1 4)) rfl dX5_add_63 ?_
    refine nt_iconst X dX5_add_66 nt_ci_1 ?_
    refine nt_isub X dX5_add_67 ?_
    have h := nt_R_some h
    exact nt_iret X dX5_add_68 h
  · have h := hf q1
    refine nt_bipush X dX5_add_9 nt_cb_m4 ?_
    have h := nt_R_some h
    exact nt_iret X dX5_add_11 h
def fSh_part (x1 : Int32) (g : nt_T) : Option (nt_T) :=
  nt_gd (nt_in x1 8) <| nt_lt (g 5 (Int32.toNatClampNeg x1)) fun v2 => nt_b1 (fSh_has v2 g) fun r3 => (if r3 = 0 then
    (some g)
  else
    (nt_gd (nt_in v2 8) <| nt_lt (nt_st g 5 (Int32.toNatClampNeg v2) (-1 : Int32)) fun g6 => nt_gd (nt_in x1 8) <| nt_lt (nt_st g6 5 (Int32.toNatClampNeg x1) (-1 : Int32)) fun g8 => some g8))
set_option maxRecDepth 100000 in
set_option maxHeartbeats 4000000 in
theorem cSh_part {l : Launch} {w : nt_w} (hw : nt_isX w) {x1 : Int32} {g : nt_T} {g2 : nt_T} (hf : fSh_part x1 g = some g2) : nt_Mv l w yX5_part cX5_part 3 none 5 [.ref (nt_a w 1), .int x1] g g2 := by
  refine nt_Mv_of (by decide) (Nat.le_of_ble_eq_true rfl) (fun p e s m args below meth c A X => ?_)
  have X : nt_X cX5_part 3 RX5 none w A p s m args meth c := X
  have h : nt_R (fSh_part x1 g) (fun z => z = g2) := ⟨_, hf, rfl⟩
  unfold fSh_part at h
  show nt_G p l e (nt_rm 5) s m args below meth c w A 0 0 (nt_Qv w A below args s g2) 3 0 [(0, .ref (nt_a w 1)), (1, .int x1)] [] g
  refine nt_aload_n X dX5_part_0 rfl 0 rfl ?_
  refine nt_get X 1 inX5 (nt_lX hw (Nat.le_of_ble_eq_true rfl)) (nt_e1 hw) rfl (j := 3) (by decide) wd_34 (v := .ref (nt_a w 5)) rfl dX5_part_1 ?_
  refine nt_iload_n X dX5_part_4 rfl 1 rfl ?_
  obtain ⟨q1, h⟩ := nt_R_gd h
  refine nt_iald X 5 0 (nt_lX hw (Nat.le_of_ble_eq_true rfl)) (nt_e5 hw) (nt_tX hw) q1 dX5_part_5 ?_
  obtain ⟨v2, ev2, h⟩ := nt_R_lt h
  refine nt_topi ev2 ?_
  refine nt_istore_n X [(2, .int v2), (0, .ref (nt_a w 1)), (1, .int x1)] dX5_part_6 rfl (by decide) rfl ?_
  refine nt_aload_n X dX5_part_7 rfl 1 rfl ?_
  refine nt_iload_n X dX5_part_8 rfl 0 rfl ?_
  obtain ⟨r3, er3, h⟩ := nt_R_b1 h
  refine nt_cVi X (As := [.int v2]) 1 (nt_lX hw (Nat.le_of_ble_eq_true rfl)) (nt_e1 hw) rfl (cSh_has hw er3) wd_344 wd_350 wd_343 wd_1025 wd_2 rfl hd_X5_has ⟨Nat.le_of_ble_eq_true rfl, Nat.le_of_ble_eq_true rfl⟩ ⟨Nat.le_refl 0, Nat.le_refl 0⟩ (Nat.le_of_ble_eq_true rfl) rfl dX5_part_9 ?_
  obtain ⟨ht, hf⟩ := nt_R_if h
  refine nt_if_eq X 29 dX5_part_12 (by decide) (fun q4 => ?_) (fun q4 => ?_)
  · have h := ht q4
    have h := nt_R_some h
    exact nt_vret X dX5_part_29 h
  · have h := hf q4
    refine nt_aload_n X dX5_part_15 rfl 1 rfl ?_
    refine nt_get X 1 inX5 (nt_lX hw (Nat.le_of_ble_eq_true rfl)) (nt_e1 hw) rfl (j := 3) (by decide) wd_34 (v := .ref (nt_a w 5)) rfl dX5_part_16 ?_
    refine nt_iload_n X dX5_part_19 rfl 0 rfl ?_
    refine nt_iconst X dX5_part_20 nt_ci_m1 ?_
    obtain ⟨q5, h⟩ := nt_R_gd h
    refine nt_iast X 5 0 (nt_lX hw (Nat.le_of_ble_eq_true rfl)) (nt_e5 hw) (nt_tX hw) q5 dX5_part_21 ?_
    obtain ⟨g6, eg6, h⟩ := nt_R_lt h
    refine nt_geq eg6 ?_
    refine nt_aload_n X dX5_part_22 rfl 1 rfl ?_
    refine nt_get X 1 inX5 (nt_lX hw (Nat.le_of_ble_eq_true rfl)) (nt_e1 hw) rfl (j := 3) (by decide) wd_34 (v := .ref (nt_a w 5)) rfl dX5_part_23 ?_
    refine nt_iload_n X dX5_part_26 rfl 2 rfl ?_
    refine nt_iconst X dX5_part_27 nt_ci_m1 ?_
    obtain ⟨q7, h⟩ := nt_R_gd h
    refine nt_iast X 5 0 (nt_lX hw (Nat.le_of_ble_eq_true rfl)) (nt_e5 hw) (nt_tX hw) q7 dX5_part_28 ?_
    obtain ⟨g8, eg8, h⟩ := nt_R_lt h
    refine nt_geq eg8 ?_
    have h := nt_R_some h
    exact nt_vret X dX5_part_29 h
def fSh_join (x1 : Int32) (x2 : Int32) (g : nt_T) : Option (nt_T) :=
  nt_b1 (fSh_part x1 g) fun g1 => nt_b1 (fSh_part x2 g1) fun g2 => nt_gd (nt_in x1 8) <| nt_lt (nt_st g2 5 (Int32.toNatClampNeg x1) x2) fun g4 => nt_gd (nt_in x2 8) <| nt_lt (nt_st g4 5 (Int32.toNatClampNeg x2) x1) fun g6 => some g6
set_option maxRecDepth 100000 in
set_option maxHeartbeats 4000000 in
theorem cSh_join {l : Launch} {w : nt_w} (hw : nt_isX w) {x1 : Int32} {x2 : Int32} {g : nt_T} {g2 : nt_T} (hf : fSh_join x1 x2 g = some g2) : nt_Mv l w yX5_join cX5_join 3 none 7 [.ref (nt_a w 1), .int x1, .int x2] g g2 := by
  refine nt_Mv_of (by decide) (Nat.le_of_ble_eq_true rfl) (fun p e s m args below meth c A X => ?_)
  have X : nt_X cX5_join 3 RX5 none w A p s m args meth c := X
  have h : nt_R (fSh_join x1 x2 g) (fun z => z = g2) := ⟨_, hf, rfl⟩
  unfold fSh_join at h
  show nt_G p l e (nt_rm 7) s m args below meth c w A 0 0 (nt_Qv w A below args s g2) 3 0 [(0, .ref (nt_a w 1)), (1, .int x1), (2, .int x2)] [] g
  refine nt_aload_n X dX5_join_0 rfl 0 rfl ?_
  refine nt_iload_n X dX5_join_1 rfl 1 rfl ?_
  obtain ⟨g1, eg1, h⟩ := nt_R_b1 h
  refine nt_cVv X (As := [.int x1]) 1 (nt_lX hw (Nat.le_of_ble_eq_true rfl)) (nt_e1 hw) rfl (cSh_part hw eg1) wd_349 wd_347 wd_348 wd_1027 wd_2 rfl hd_X5_part ⟨Nat.le_of_ble_eq_true rfl, Nat.le_of_ble_eq_true rfl⟩ ⟨Nat.le_refl 0, Nat.le_refl 0⟩ (Nat.le_of_ble_eq_true rfl) rfl dX5_join_2 ?_
  refine nt_aload_n X dX5_join_5 rfl 0 rfl ?_
  refine nt_iload_n X dX5_join_6 rfl 2 rfl ?_
  obtain ⟨g2, eg2, h⟩ := nt_R_b1 h
  refine nt_cVv X (As := [.int x2]) 1 (nt_lX hw (Nat.le_of_ble_eq_true rfl)) (nt_e1 hw) rfl (cSh_part hw eg2) wd_349 wd_347 wd_348 wd_1027 wd_2 rfl hd_X5_part ⟨Nat.le_of_ble_eq_true rfl, Nat.le_of_ble_eq_true rfl⟩ ⟨Nat.le_refl 0, Nat.le_refl 0⟩ (Nat.le_of_ble_eq_true rfl) rfl dX5_join_7 ?_
  refine nt_aload_n X dX5_join_10 rfl 0 rfl ?_
  refine nt_get X 1 inX5 (nt_lX hw (Nat.le_of_ble_eq_true rfl)) (nt_e1 hw) rfl (j := 3) (by decide) wd_34 (v := .ref (nt_a w 5)) rfl dX5_join_11 ?_
  refine nt_iload_n X dX5_join_14 rfl 1 rfl ?_
  refine nt_iload_n X dX5_join_15 rfl 2 rfl ?_
  obtain ⟨q3, h⟩ := nt_R_gd h
  refine nt_iast X 5 0 (nt_lX hw (Nat.le_of_ble_eq_true rfl)) (nt_e5 hw) (nt_tX hw) q3 dX5_join_16 ?_
  obtain ⟨g4, eg4, h⟩ := nt_R_lt h
  refine nt_geq eg4 ?_
  refine nt_aload_n X dX5_join_17 rfl 0 rfl ?_
  refine nt_get X 1 inX5 (nt_lX hw (Nat.le_of_ble_eq_true rfl)) (nt_e1 hw) rfl (j := 3) (by decide) wd_34 (v := .ref (nt_a w 5)) rfl dX5_join_18 ?_
  refine nt_iload_n X dX5_join_21 rfl 2 rfl ?_
  refine nt_iload_n X dX5_join_22 rfl 1 rfl ?_
  obtain ⟨q5, h⟩ := nt_R_gd h
  refine nt_iast X 5 0 (nt_lX hw (Nat.le_of_ble_eq_true rfl)) (nt_e5 hw) (nt_tX hw) q5 dX5_join_23 ?_
  obtain ⟨g6, eg6, h⟩ := nt_R_lt h
  refine nt_geq eg6 ?_
  have h := nt_R_some h
  exact nt_vret X dX5_join_24 h
def bSh_withTwins_4 (x1 : Int32) (g : nt_T) (x2 : Int32) (x3 : Int32) : Option ((Int32 × Int32) ⊕ ((Int32))) :=
  (if (g 1 4) ≤ x3 then
    (some (.inr x2))
  else
    ((if x1 = 0 then
    (some (.inr x2))
  else
    ((if ((x1 >>> (x3 &&& 31)) &&& (1 : Int32)) = (1 : Int32) then
    (nt_gd (nt_in x3 8) <| (if (g 5 (Int32.toNatClampNeg x3)) = (-1 : Int32) then
    (nt_lt (x3 + (1 : Int32)) fun v7 => some (.inl (x2, v7)))
  else
    (nt_gd (nt_in x3 8) <| nt_lt (x2 ||| ((1 : Int32) <<< ((g 5 (Int32.toNatClampNeg x3)) &&& 31))) fun v9 => nt_lt (x3 + (1 : Int32)) fun v10 => some (.inl (v9, v10)))))
  else
    (nt_lt (x3 + (1 : Int32)) fun v4 => some (.inl (x2, v4))))))))
set_option maxRecDepth 100000 in
set_option maxHeartbeats 4000000 in
theorem tbSh_withTwins_4 {p : Program} {l : Launch} {e : Env} {s : State} {m : MethodId} {args : Array Value} {below : List Frame} {meth : Method} {c : Code} {w : nt_w} {A : Nat → Prop} (hw : nt_isX w) {Q : State → Prop} (X : nt_X cX5_withTwins 4 RX5 (some .int) w A p s m args meth c) (x1 : Int32) (g : nt_T)  {Qx : ((Int32)) → Prop} (hE0 : ∀ (y2 : Int32), Qx y2 → nt_G p l e (nt_rm 1) s m args below meth c w A 0 0 Q 4 52 [(0, .ref (nt_a w 1)), (1, .int x1), (2, .int y2)] [] g) : ∀ (n : Nat) (x2 : Int32) (x3 : Int32), nt_R (nt_it (fun z => bSh_withTwins_4 x1 g z.1 z.2) n (x2, x3)) Qx → nt_G p l e (nt_rm 1) s m args below meth c w A 0 0 Q 4 4 [(0, .ref (nt_a w 1)), (1, .int x1), (2, .int x2), (3, .int x3)] [] g := by
  intro n
  induction n with
  | zero =>
    intro x2 x3 h
    exact nt_R_none h
  | succ n ih =>
    intro x2 x3 h
    have h : nt_R (bSh_withTwins_4 x1 g x2 x3) (nt_Qz (fun z => bSh_withTwins_4 x1 g z.1 z.2) n Qx) := nt_R_it h
    have hI : ∀ (y2 : Int32) (y3 : Int32), nt_Qz (fun z => bSh_withTwins_4 x1 g z.1 z.2) n Qx (.inl (y2, y3)) → nt_G p l e (nt_rm 1) s m args below meth c w A 0 0 Q 4 4 [(0, .ref (nt_a w 1)), (1, .int x1), (2, .int y2), (3, .int y3)] [] g := fun y2 y3 q => ih y2 y3 q
    have hE0 : ∀ (y2 : Int32), nt_Qz (fun z => bSh_withTwins_4 x1 g z.1 z.2) n Qx (.inr y2) → nt_G p l e (nt_rm 1) s m args below meth c w A 0 0 Q 4 52 [(0, .ref (nt_a w 1)), (1, .int x1), (2, .int y2)] [] g := hE0
    generalize nt_Qz (fun z => bSh_withTwins_4 x1 g z.1 z.2) n Qx = Qz at h hI hE0
    unfold bSh_withTwins_4 at h
    refine nt_iload_n X dX5_withTwins_4 rfl 3 rfl ?_
    refine nt_aload_n X dX5_withTwins_5 rfl 0 rfl ?_
    refine nt_get X 1 inX5 (nt_lX hw (Nat.le_of_ble_eq_true rfl)) (nt_e1 hw) rfl (j := 4) (by decide) wd_35 (v := .int (g 1 4)) rfl dX5_withTwins_6 ?_
    obtain ⟨ht, hf⟩ := nt_R_if h
    refine nt_icmp_ge X 52 dX5_withTwins_9 (by decide) (fun q1 => ?_) (fun q1 => ?_)
    · have h := ht q1
      refine nt_sub [0, 1, 2] rfl ?_
      have h := nt_R_some h
      exact hE0 x2 h
    · have h := hf q1
      refine nt_iload_n X dX5_withTwins_12 rfl 1 rfl ?_
      obtain ⟨ht, hf⟩ := nt_R_if h
      refine nt_if_eq X 52 dX5_withTwins_13 (by decide) (fun q2 => ?_) (fun q2 => ?_)
      · have h := ht q2
        refine nt_sub [0, 1, 2] rfl ?_
        have h := nt_R_some h
        exact hE0 x2 h
      · have h := hf q2
        refine nt_iload_n X dX5_withTwins_16 rfl 1 rfl ?_
        refine nt_iload_n X dX5_withTwins_17 rfl 3 rfl ?_
        refine nt_ishr X dX5_withTwins_18 ?_
        refine nt_iconst X dX5_withTwins_19 nt_ci_1 ?_
        refine nt_iand X dX5_withTwins_20 ?_
        refine nt_iconst X dX5_withTwins_21 nt_ci_1 ?_
        obtain ⟨ht, hf⟩ := nt_R_if h
        refine nt_icmp_ne X 46 dX5_withTwins_22 (by decide) (fun q3 => ?_) (fun q3 => ?_)
        · have h := hf q3
          obtain ⟨v4, ev4, h⟩ := nt_R_lt h
          refine nt_iinc X v4 [(3, .int v4), (0, .ref (nt_a w 1)), (1, .int x1), (2, .int x2)] dX5_withTwins_46 3 rfl (by rw [nt_ci_1]; exact ev4) (by decide) rfl ?_
          refine nt_goto X 4 dX5_withTwins_49 (by decide) ?_
          refine nt_sub [1, 2, 3, 0] rfl ?_
          have h := nt_R_some h
          exact hI x2 v4 h
        · have h := ht q3
          refine nt_aload_n X dX5_withTwins_25 rfl 0 rfl ?_
          refine nt_get X 1 inX5 (nt_lX hw (Nat.le_of_ble_eq_true rfl)) (nt_e1 hw) rfl (j := 3) (by decide) wd_34 (v := .ref (nt_a w 5)) rfl dX5_withTwins_26 ?_
          refine nt_iload_n X dX5_withTwins_29 rfl 3 rfl ?_
          obtain ⟨q5, h⟩ := nt_R_gd h
          refine nt_iald X 5 0 (nt_lX hw (Nat.le_of_ble_eq_true rfl)) (nt_e5 hw) (nt_tX hw) q5 dX5_withTwins_30 ?_
          refine nt_iconst X dX5_withTwins_31 nt_ci_m1 ?_
          obtain ⟨ht, hf⟩ := nt_R_if h
          refine nt_icmp_eq X 46 dX5_withTwins_32 (by decide) (fun q6 => ?_) (fun q6 => ?_)
          · have h := ht q6
            obtain ⟨v7, ev7, h⟩ := nt_R_lt h
            refine nt_iinc X v7 [(3, .int v7), (0, .ref (nt_a w 1)), (1, .int x1), (2, .int x2)] dX5_withTwins_46 3 rfl (by rw [nt_ci_1]; exact ev7) (by decide) rfl ?_
            refine nt_goto X 4 dX5_withTwins_49 (by decide) ?_
            refine nt_sub [1, 2, 3, 0] rfl ?_
            have h := nt_R_some h
            exact hI x2 v7 h
          · have h := hf q6
            refine nt_iload_n X dX5_withTwins_35 rfl 2 rfl ?_
            refine nt_iconst X dX5_withTwins_36 nt_ci_1 ?_
            refine nt_aload_n X dX5_withTwins_37 rfl 0 rfl ?_
            refine nt_get X 1 inX5 (nt_lX hw (Nat.le_of_ble_eq_true rfl)) (nt_e1 hw) rfl (j := 3) (by decide) wd_34 (v := .ref (nt_a w 5)) rfl dX5_withTwins_38 ?_
            refine nt_iload_n X dX5_withTwins_41 rfl 3 rfl ?_
            obtain ⟨q8, h⟩ := nt_R_gd h
            refine nt_iald X 5 0 (nt_lX hw (Nat.le_of_ble_eq_true rfl)) (nt_e5 hw) (nt_tX hw) q8 dX5_withTwins_42 ?_
            refine nt_ishl X dX5_withTwins_43 ?_
            refine nt_ior X dX5_withTwins_44 ?_
            obtain ⟨v9, ev9, h⟩ := nt_R_lt h
            refine nt_topi ev9 ?_
            refine nt_istore_n X [(2, .int v9), (0, .ref (nt_a w 1)), (1, .int x1), (3, .int x3)] dX5_withTwins_45 rfl (by decide) rfl ?_
            obtain ⟨v10, ev10, h⟩ := nt_R_lt h
            refine nt_iinc X v10 [(3, .int v10), (2, .int v9), (0, .ref (nt_a w 1)), (1, .int x1)] dX5_withTwins_46 3 rfl (by rw [nt_ci_1]; exact ev10) (by decide) rfl ?_
            refine nt_goto X 4 dX5_withTwins_49 (by decide) ?_
            refine nt_sub [2, 3, 1, 0] rfl ?_
            have h := nt_R_some h
            exact hI v9 v10 h
def fSh_withTwins (x1 : Int32) (g : nt_T) : Option (Int32) :=
  (nt_b1 (nt_it (fun z => bSh_withTwins_4 x1 g z.1 z.2) nt_fu (x1, (0 : Int32))) fun v11 => some v11)
set_option maxRecDepth 100000 in
set_option maxHeartbeats 4000000 in
theorem cSh_withTwins {l : Launch} {w : nt_w} (hw : nt_isX w) {x1 : Int32} {g : nt_T} {r : Int32} (hf : fSh_withTwins x1 g = some r) : nt_Mi l w yX5_withTwins cX5_withTwins 4 (some .int) 1 [.ref (nt_a w 1), .int x1] g r g := by
  refine nt_Mi_of (by decide) (Nat.le_of_ble_eq_true rfl) (fun p e s m args below meth c A X => ?_)
  have X : nt_X cX5_withTwins 4 RX5 (some .int) w A p s m args meth c := X
  have hg : g = g := rfl
  have h : nt_R (fSh_withTwins x1 g) (fun z => z = r) := ⟨_, hf, rfl⟩
  unfold fSh_withTwins at h
  show nt_G p l e (nt_rm 1) s m args below meth c w A 0 0 (nt_Qi w A below args s r g) 4 0 [(0, .ref (nt_a w 1)), (1, .int x1)] [] g
  refine nt_iload_n X dX5_withTwins_0 rfl 1 rfl ?_
  refine nt_istore_n X [(2, .int x1), (0, .ref (nt_a w 1)), (1, .int x1)] dX5_withTwins_1 rfl (by decide) rfl ?_
  refine nt_iconst X dX5_withTwins_2 nt_ci_0 ?_
  refine nt_istore_n X [(3, .int (0 : Int32)), (2, .int x1), (0, .ref (nt_a w 1)), (1, .int x1)] dX5_withTwins_3 rfl (by decide) rfl ?_
  obtain ⟨z12, hz12, h⟩ := nt_R_b1 h
  refine nt_sub [2, 3, 1, 0] rfl ?_
  refine tbSh_withTwins_4 hw X x1 g (Qx := fun z => z = z12) (fun v11 hq => ?_) nt_fu x1 (0 : Int32) ⟨_, hz12, rfl⟩
  subst hq
  refine nt_iload_n X dX5_withTwins_52 rfl 2 rfl ?_
  have h := nt_R_some h
  exact nt_iret X dX5_withTwins_53 (nt_pe h hg)
def jSh_counts_25 (x1 : Int32) (x2 : Int32) (x3 : Int32) (x4 : Int32) (s0 : Int32) (g : nt_T) : Option (Int32) :=
  nt_gd (nt_in x1 8) <| (if (g 2 (Int32.toNatClampNeg x1)) = 1 then
    (some x4)
  else
    (if (g 2 (Int32.toNatClampNeg x1)) = 2 then
    (some s0)
  else
    (if (g 2 (Int32.toNatClampNeg x1)) = 3 then
    (nt_gd (decide (¬ (2 : Int32) = 0)) <| some (x4 / (2 : Int32)))
  else
    (if (g 2 (Int32.toNatClampNeg x1)) = 4 then
    (nt_gd (nt_in x1 8) <| some (s0 + (g 4 (Int32.toNatClampNeg x1))))
  else
    (if (g 2 (Int32.toNatClampNeg x1)) = 5 then
    ((if x2 < (60 : Int32) then
    (some x4)
  else
    (some (x4 + (5 : Int32)))))
  else
    some x3)))))
set_option maxRecDepth 100000 in
set_option maxHeartbeats 4000000 in
theorem tjSh_counts_25 {p : Program} {l : Launch} {e : Env} {s : State} {m : MethodId} {args : Array Value} {below : List Frame} {meth : Method} {c : Code} {w : nt_w} {A : Nat → Prop} (hw : nt_isX w) {r : Int32} {g0 : nt_T}  (X : nt_X cX5_counts 6 RX5 (some .int) w A p s m args meth c) (x1 : Int32) (x2 : Int32) (x3 : Int32) (x4 : Int32) (s0 : Int32) (g : nt_T) (hg : g = g0) (h : nt_R (jSh_counts_25 x1 x2 x3 x4 s0 g) (fun z => z = r)) : nt_G p l e (nt_rm 1) s m args below meth c w A 0 0 (nt_Qi w A below args s r g0) 6 25 [(0, .ref (nt_a w 1)), (1, .int x1), (2, .int x2), (3, .int x3), (4, .int x4)] [.int s0] g := by
  unfold jSh_counts_25 at h
  refine nt_istore X [(5, .int s0), (0, .ref (nt_a w 1)), (1, .int x1), (2, .int x2), (3, .int x3), (4, .int x4)] dX5_counts_25 (by decide) rfl ?_
  refine nt_aload_n X dX5_counts_27 rfl 1 rfl ?_
  refine nt_get X 1 inX5 (nt_lX hw (Nat.le_of_ble_eq_true rfl)) (nt_e1 hw) rfl (j := 0) (by decide) wd_31 (v := .ref (nt_a w 2)) rfl dX5_counts_28 ?_
  refine nt_iload_n X dX5_counts_31 rfl 2 rfl ?_
  obtain ⟨q5, h⟩ := nt_R_gd h
  refine nt_iald X 2 0 (nt_lX hw (Nat.le_of_ble_eq_true rfl)) (nt_e2 hw) (nt_tX hw) q5 dX5_counts_32 ?_
  obtain ⟨ht, hf⟩ := nt_R_if h
  rcases Decidable.em ((g 2 (Int32.toNatClampNeg x1)) = 1) with q33_1 | q33_1
  · have h := ht q33_1
    refine nt_tblIn X 68 dX5_counts_33 (off := 35) (by rw [q33_1]; decide) (by rw [q33_1]; decide) (by rw [q33_1]; rfl) (by decide) ?_
    refine nt_iload X dX5_counts_68 5 rfl ?_
    have h := nt_R_some h
    exact nt_iret X dX5_counts_70 (nt_pe h hg)
  · have h := hf q33_1
    obtain ⟨ht, hf⟩ := nt_R_if h
    rcases Decidable.em ((g 2 (Int32.toNatClampNeg x1)) = 2) with q33_2 | q33_2
    · have h := ht q33_2
      refine nt_tblIn X 71 dX5_counts_33 (off := 38) (by rw [q33_2]; decide) (by rw [q33_2]; decide) (by rw [q33_2]; rfl) (by decide) ?_
      refine nt_iload X dX5_counts_71 0 rfl ?_
      have h := nt_R_some h
      exact nt_iret X dX5_counts_73 (nt_pe h hg)
    · have h := hf q33_2
      obtain ⟨ht, hf⟩ := nt_R_if h
      rcases Decidable.em ((g 2 (Int32.toNatClampNeg x1)) = 3) with q33_3 | q33_3
      · have h := ht q33_3
        refine nt_tblIn X 74 dX5_counts_33 (off := 41) (by rw [q33_3]; decide) (by rw [q33_3]; decide) (by rw [q33_3]; rfl) (by decide) ?_
        refine nt_iload X dX5_counts_74 5 rfl ?_
        refine nt_iconst X dX5_counts_76 nt_ci_2 ?_
        obtain ⟨q6, h⟩ := nt_R_gd h
        refine nt_idiv X dX5_counts_77 (of_decide_eq_true q6) ?_
        have h := nt_R_some h
        exact nt_iret X dX5_counts_78 (nt_pe h hg)
      · have h := hf q33_3
        obtain ⟨ht, hf⟩ := nt_R_if h
        rcases Decidable.em ((g 2 (Int32.toNatClampNeg x1)) = 4) with q33_4 | q33_4
        · have h := ht q33_4
          refine nt_tblIn X 79 dX5_counts_33 (off := 46) (by rw [q33_4]; decide) (by rw [q33_4]; decide) (by rw [q33_4]; rfl) (by decide) ?_
          refine nt_iload X dX5_counts_79 0 rfl ?_
          refine nt_aload_n X dX5_counts_81 rfl 1 rfl ?_
          refine nt_get X 1 inX5 (nt_lX hw (Nat.le_of_ble_eq_true rfl)) (nt_e1 hw) rfl (j := 2) (by decide) wd_33 (v := .ref (nt_a w 4)) rfl dX5_counts_82 ?_
          refine nt_iload_n X dX5_counts_85 rfl 2 rfl ?_
          obtain ⟨q7, h⟩ := nt_R_gd h
          refine nt_iald X 4 0 (nt_lX hw (Nat.le_of_ble_eq_true rfl)) (nt_e4 hw) (nt_tX hw) q7 dX5_counts_86 ?_
          refine nt_iadd X dX5_counts_87 ?_
          have h := nt_R_some h
          exact nt_iret X dX5_counts_88 (nt_pe h hg)
        · have h := hf q33_4
          obtain ⟨ht, hf⟩ := nt_R_if h
          rcases Decidable.em ((g 2 (Int32.toNatClampNeg x1)) = 5) with q33_5 | q33_5
          · have h := ht q33_5
            refine nt_tblIn X 89 dX5_counts_33 (off := 56) (by rw [q33_5]; decide) (by rw [q33_5]; decide) (by rw [q33_5]; rfl) (by decide) ?_
            refine nt_iload_n X dX5_counts_89 rfl 3 rfl ?_
            refine nt_bipush X dX5_counts_90 nt_cb_60 ?_
            obtain ⟨ht, hf⟩ := nt_R_if h
            refine nt_icmp_lt X 102 dX5_counts_92 (by decide) (fun q8 => ?_) (fun q8 => ?_)
            · have h := ht q8
              refine nt_iload X dX5_counts_102 5 rfl ?_
              have h := nt_R_some h
              exact nt_iret X dX5_counts_104 (nt_pe h hg)
            · have h := hf q8
              refine nt_iload X dX5_counts_95 5 rfl ?_
              refine nt_iconst X dX5_counts_97 nt_ci_5 ?_
              refine nt_iadd X dX5_counts_98 ?_
              refine nt_goto X 104 dX5_counts_99 (by decide) ?_
              have h := nt_R_some h
              exact nt_iret X dX5_counts_104 (nt_pe h hg)
          · have h := hf q33_5
            refine nt_tblOut X 105 dX5_counts_33 (by have w1 := lv_neT q33_1 (a := 1) (by decide); have w2 := lv_neT q33_2 (a := 2) (by decide); have w3 := lv_neT q33_3 (a := 3) (by decide); have w4 := lv_neT q33_4 (a := 4) (by decide); have w5 := lv_neT q33_5 (a := 5) (by decide); omega) (by decide) ?_
            refine nt_iload_n X dX5_counts_105 rfl 4 rfl ?_
            have h := nt_R_some h
            exact nt_iret X dX5_counts_106 (nt_pe h hg)
def fSh_counts (x1 : Int32) (x2 : Int32) (g : nt_T) : Option (Int32) :=
  nt_gd (nt_in x1 8) <| nt_lt (g 3 (Int32.toNatClampNeg x1)) fun v2 => nt_lt (v2 + (2 : Int32)) fun v3 => (if (14 : Int32) ≤ x2 then
    (jSh_counts_25 x1 x2 v2 v3 v2 g)
  else
    (jSh_counts_25 x1 x2 v2 v3 ((2 : Int32) * v2) g))
set_option maxRecDepth 100000 in
set_option maxHeartbeats 4000000 in
theorem cSh_counts {l : Launch} {w : nt_w} (hw : nt_isX w) {x1 : Int32} {x2 : Int32} {g : nt_T} {r : Int32} (hf : fSh_counts x1 x2 g = some r) : nt_Mi l w yX5_counts cX5_counts 6 (some .int) 1 [.ref (nt_a w 1), .int x1, .int x2] g r g := by
  refine nt_Mi_of (by decide) (Nat.le_of_ble_eq_true rfl) (fun p e s m args below meth c A X => ?_)
  have X : nt_X cX5_counts 6 RX5 (some .int) w A p s m args meth c := X
  have hg : g = g := rfl
  have h : nt_R (fSh_counts x1 x2 g) (fun z => z = r) := ⟨_, hf, rfl⟩
  unfold fSh_counts at h
  show nt_G p l e (nt_rm 1) s m args below meth c w A 0 0 (nt_Qi w A below args s r g) 6 0 [(0, .ref (nt_a w 1)), (1, .int x1), (2, .int x2)] [] g
  refine nt_aload_n X dX5_counts_0 rfl 0 rfl ?_
  refine nt_get X 1 inX5 (nt_lX hw (Nat.le_of_ble_eq_true rfl)) (nt_e1 hw) rfl (j := 1) (by decide) wd_32 (v := .ref (nt_a w 3)) rfl dX5_counts_1 ?_
  refine nt_iload_n X dX5_counts_4 rfl 1 rfl ?_
  obtain ⟨q1, h⟩ := nt_R_gd h
  refine nt_iald X 3 0 (nt_lX hw (Nat.le_of_ble_eq_true rfl)) (nt_e3 hw) (nt_tX hw) q1 dX5_counts_5 ?_
  obtain ⟨v2, ev2, h⟩ := nt_R_lt h
  refine nt_topi ev2 ?_
  refine nt_istore_n X [(3, .int v2), (0, .ref (nt_a w 1)), (1, .int x1), (2, .int x2)] dX5_counts_6 rfl (by decide) rfl ?_
  refine nt_iload_n X dX5_counts_7 rfl 0 rfl ?_
  refine nt_iconst X dX5_counts_8 nt_ci_2 ?_
  refine nt_iadd X dX5_counts_9 ?_
  obtain ⟨v3, ev3, h⟩ := nt_R_lt h
  refine nt_topi ev3 ?_
  refine nt_istore X [(4, .int v3), (3, .int v2), (0, .ref (nt_a w 1)), (1, .int x1), (2, .int x2)] dX5_counts_10 (by decide) rfl ?_
  refine nt_iload_n X dX5_counts_12 rfl 4 rfl ?_
  refine nt_bipush X dX5_counts_13 nt_cb_14 ?_
  obtain ⟨ht, hf⟩ := nt_R_if h
  refine nt_icmp_ge X 24 dX5_counts_15 (by decide) (fun q4 => ?_) (fun q4 => ?_)
  · have h := ht q4
    refine nt_iload_n X dX5_counts_24 rfl 1 rfl ?_
    refine nt_sub [2, 3, 4, 1, 0] rfl ?_
    exact tjSh_counts_25 hw X x1 x2 v2 v3 v2 g hg h
  · have h := hf q4
    refine nt_iconst X dX5_counts_18 nt_ci_2 ?_
    refine nt_iload_n X dX5_counts_19 rfl 1 rfl ?_
    refine nt_imul X dX5_counts_20 ?_
    refine nt_goto X 25 dX5_counts_21 (by decide) ?_
    refine nt_sub [2, 3, 4, 1, 0] rfl ?_
    exact tjSh_counts_25 hw X x1 x2 v2 v3 ((2 : Int32) * v2) g hg h
def fSh_stays (x1 : Int32) (g : nt_T) : Option (Int32) :=
  nt_gd (nt_in x1 8) <| nt_lt ((30 : Int32) + (g 4 (Int32.toNatClampNeg x1))) fun v2 => nt_gd (decide (¬ (2 : Int32) = 0)) <| nt_lt ((30 : Int32) / (2 : Int32)) fun v4 => nt_gd (nt_in x1 8) <| (if (g 2 (Int32.toNatClampNeg x1)) = 1 then
    (some v2)
  else
    (if (g 2 (Int32.toNatClampNeg x1)) = 2 then
    (some v4)
  else
    (if (g 2 (Int32.toNatClampNeg x1)) = 3 then
    (some (nt_max (0 : Int32) (v2 - (20 : Int32))))
  else
    (if (g 2 (Int32.toNatClampNeg x1)) = 4 then
    (some ((2 : Int32) * v4))
  else
    (if (g 2 (Int32.toNatClampNeg x1)) = 5 then
    (some v2)
  else
    some (30 : Int32))))))
set_option maxRecDepth 100000 in
set_option maxHeartbeats 4000000 in
theorem cSh_stays {l : Launch} {w : nt_w} (hw : nt_isX w) {x1 : Int32} {g : nt_T} {r : Int32} (hf : fSh_stays x1 g = some r) : nt_Mi l w yX5_stays cX5_stays 5 (some .int) 3 [.ref (nt_a w 1), .int x1] g r g := by
  refine nt_Mi_of (by decide) (Nat.le_of_ble_eq_true rfl) (fun p e s m args below meth c A X => ?_)
  have X : nt_X cX5_stays 5 RX5 (some .int) w A p s m args meth c := X
  have hg : g = g := rfl
  have h : nt_R (fSh_stays x1 g) (fun z => z = r) := ⟨_, hf, rfl⟩
  unfold fSh_stays at h
  show nt_G p l e (nt_rm 3) s m args below meth c w A 0 0 (nt_Qi w A below args s r g) 5 0 [(0, .ref (nt_a w 1)), (1, .int x1)] [] g
  refine nt_bipush X dX5_stays_0 nt_cb_30 ?_
  refine nt_istore_n X [(2, .int (30 : Int32)), (0, .ref (nt_a w 1)), (1, .int x1)] dX5_stays_2 rfl (by decide) rfl ?_
  refine nt_iload_n X dX5_stays_3 rfl 0 rfl ?_
  refine nt_aload_n X dX5_stays_4 rfl 1 rfl ?_
  refine nt_get X 1 inX5 (nt_lX hw (Nat.le_of_ble_eq_true rfl)) (nt_e1 hw) rfl (j := 2) (by decide) wd_33 (v := .ref (nt_a w 4)) rfl dX5_stays_5 ?_
  refine nt_iload_n X dX5_stays_8 rfl 2 rfl ?_
  obtain ⟨q1, h⟩ := nt_R_gd h
  refine nt_iald X 4 0 (nt_lX hw (Nat.le_of_ble_eq_true rfl)) (nt_e4 hw) (nt_tX hw) q1 dX5_stays_9 ?_
  refine nt_iadd X dX5_stays_10 ?_
  obtain ⟨v2, ev2, h⟩ := nt_R_lt h
  refine nt_topi ev2 ?_
  refine nt_istore_n X [(3, .int v2), (2, .int (30 : Int32)), (0, .ref (nt_a w 1)), (1, .int x1)] dX5_stays_11 rfl (by decide) rfl ?_
  refine nt_iload_n X dX5_stays_12 rfl 1 rfl ?_
  refine nt_iconst X dX5_stays_13 nt_ci_2 ?_
  obtain ⟨q3, h⟩ := nt_R_gd h
  refine nt_idiv X dX5_stays_14 (of_decide_eq_true q3) ?_
  obtain ⟨v4, ev4, h⟩ := nt_R_lt h
  refine nt_topi ev4 ?_
  refine nt_istore X [(4, .int v4), (3, .int v2), (2, .int (30 : Int32)), (0, .ref (nt_a w 1)), (1, .int x1)] dX5_stays_15 (by decide) rfl ?_
  refine nt_aload_n X dX5_stays_17 rfl 3 rfl ?_
  refine nt_get X 1 inX5 (nt_lX hw (Nat.le_of_ble_eq_true rfl)) (nt_e1 hw) rfl (j := 0) (by decide) wd_31 (v := .ref (nt_a w 2)) rfl dX5_stays_18 ?_
  refine nt_iload_n X dX5_stays_21 rfl 4 rfl ?_
  obtain ⟨q5, h⟩ := nt_R_gd h
  refine nt_iald X 2 0 (nt_lX hw (Nat.le_of_ble_eq_true rfl)) (nt_e2 hw) (nt_tX hw) q5 dX5_stays_22 ?_
  obtain ⟨ht, hf⟩ := nt_R_if h
  rcases Decidable.em ((g 2 (Int32.toNatClampNeg x1)) = 1) with q23_1 | q23_1
  · have h := ht q23_1
    refine nt_tblIn X 56 dX5_stays_23 (off := 33) (by rw [q23_1]; decide) (by rw [q23_1]; decide) (by rw [q23_1]; rfl) (by decide) ?_
    refine nt_iload_n X dX5_stays_56 rfl 1 rfl ?_
    have h := nt_R_some h
    exact nt_iret X dX5_stays_57 (nt_pe h hg)
  · have h := hf q23_1
    obtain ⟨ht, hf⟩ := nt_R_if h
    rcases Decidable.em ((g 2 (Int32.toNatClampNeg x1)) = 2) with q23_2 | q23_2
    · have h := ht q23_2
      refine nt_tblIn X 58 dX5_stays_23 (off := 35) (by rw [q23_2]; decide) (by rw [q23_2]; decide) (by rw [q23_2]; rfl) (by decide) ?_
      refine nt_iload X dX5_stays_58 0 rfl ?_
      have h := nt_R_some h
      exact nt_iret X dX5_stays_60 (nt_pe h hg)
    · have h := hf q23_2
      obtain ⟨ht, hf⟩ := nt_R_if h
      rcases Decidable.em ((g 2 (Int32.toNatClampNeg x1)) = 3) with q23_3 | q23_3
      · have h := ht q23_3
        refine nt_tblIn X 61 dX5_stays_23 (off := 38) (by rw [q23_3]; decide) (by rw [q23_3]; decide) (by rw [q23_3]; rfl) (by decide) ?_
        refine nt_iconst X dX5_stays_61 nt_ci_0 ?_
        refine nt_iload_n X dX5_stays_62 rfl 1 rfl ?_
        refine nt_bipush X dX5_stays_63 nt_cb_20 ?_
        refine nt_isub X dX5_stays_65 ?_
        refine nt_mmax X wd_386 wd_160 wd_9 wd_161 ⟨Nat.le_of_ble_eq_true rfl, Nat.le_of_ble_eq_true rfl⟩ ⟨Nat.le_refl 0, Nat.le_refl 0⟩ dX5_stays_66 ?_
        have h := nt_R_some h
        exact nt_iret X dX5_stays_69 (nt_pe h hg)
      · have h := hf q23_3
        obtain ⟨ht, hf⟩ := nt_R_if h
        rcases Decidable.em ((g 2 (Int32.toNatClampNeg x1)) = 4) with q23_4 | q23_4
        · have h := ht q23_4
          refine nt_tblIn X 70 dX5_stays_23 (off := 47) (by rw [q23_4]; decide) (by rw [q23_4]; decide) (by rw [q23_4]; rfl) (by decide) ?_
          refine nt_iconst X dX5_stays_70 nt_ci_2 ?_
          refine nt_iload X dX5_stays_71 0 rfl ?_
          refine nt_imul X dX5_stays_73 ?_
          have h := nt_R_some h
          exact nt_iret X dX5_stays_74 (nt_pe h hg)
        · have h := hf q23_4
          obtain ⟨ht, hf⟩ := nt_R_if h
          rcases Decidable.em ((g 2 (Int32.toNatClampNeg x1)) = 5) with q23_5 | q23_5
          · have h := ht q23_5
            refine nt_tblIn X 56 dX5_stays_23 (off := 33) (by rw [q23_5]; decide) (by rw [q23_5]; decide) (by rw [q23_5]; rfl) (by decide) ?_
            refine nt_iload_n X dX5_stays_56 rfl 1 rfl ?_
            have h := nt_R_some h
            exact nt_iret X dX5_stays_57 (nt_pe h hg)
          · have h := hf q23_5
            refine nt_tblOut X 75 dX5_stays_23 (by have w1 := lv_neT q23_1 (a := 1) (by decide); have w2 := lv_neT q23_2 (a := 2) (by decide); have w3 := lv_neT q23_3 (a := 3) (by decide); have w4 := lv_neT q23_4 (a := 4) (by decide); have w5 := lv_neT q23_5 (a := 5) (by decide); omega) (by decide) ?_
            refine nt_iload_n X dX5_stays_75 rfl 2 rfl ?_
            have h := nt_R_some h
            exact nt_iret X dX5_stays_76 (nt_pe h hg)
def bSh_isUnder_10 (x2 : Int32) (g : nt_T) (x3 : Int32) (x4 : Int32) : Option ((Int32 × Int32) ⊕ ((Unit) ⊕ (Unit))) :=
  (if (6 : Int32) ≤ x4 then
    (some (.inr (.inr ())))
  else
    ((if x3 = (-1 : Int32) then
    (some (.inr (.inr ())))
  else
    ((if x3 = x2 then
    (some (.inr (.inl ())))
  else
    (nt_gd (nt_in x3 6) <| nt_lt (nt_und x3) fun v7 => nt_lt (x4 + (1 : Int32)) fun v8 => some (.inl (v7, v8))))))))
set_option maxRecDepth 100000 in
set_option maxHeartbeats 4000000 in
theorem tbSh_isUnder_10 {p : Program} {l : Launch} {e : Env} {s : State} {m : MethodId} {args : Array Value} {below : List Frame} {meth : Method} {c : Code} {w : nt_w} {A : Nat → Prop} (hw : nt_isX w) {Q : State → Prop} (X : nt_X cX5_isUnder 5 RX5 (some .boolean) w A p s m args meth c) (x2 : Int32) (g : nt_T)  {Qx : ((Unit) ⊕ (Unit)) → Prop} (hE0 :  Qx (.inl ()) → nt_G p l e (nt_rm 1) s m args below meth c w A 0 0 Q 5 27 [(0, .ref (nt_a w 1)), (2, .int x2)] [] g) (hE1 :  Qx (.inr ()) → nt_G p l e (nt_rm 1) s m args below meth c w A 0 0 Q 5 41 [(0, .ref (nt_a w 1)), (2, .int x2)] [] g) : ∀ (n : Nat) (x3 : Int32) (x4 : Int32), nt_R (nt_it (fun z => bSh_isUnder_10 x2 g z.1 z.2) n (x3, x4)) Qx → nt_G p l e (nt_rm 1) s m args below meth c w A 0 0 Q 5 10 [(0, .ref (nt_a w 1)), (2, .int x2), (3, .int x3), (4, .int x4)] [] g := by
  intro n
  induction n with
  | zero =>
    intro x3 x4 h
    exact nt_R_none h
  | succ n ih =>
    intro x3 x4 h
    have h : nt_R (bSh_isUnder_10 x2 g x3 x4) (nt_Qz (fun z => bSh_isUnder_10 x2 g z.1 z.2) n Qx) := nt_R_it h
    have hI : ∀ (y3 : Int32) (y4 : Int32), nt_Qz (fun z => bSh_isUnder_10 x2 g z.1 z.2) n Qx (.inl (y3, y4)) → nt_G p l e (nt_rm 1) s m args below meth c w A 0 0 Q 5 10 [(0, .ref (nt_a w 1)), (2, .int x2), (3, .int y3), (4, .int y4)] [] g := fun y3 y4 q => ih y3 y4 q
    have hE0 :  nt_Qz (fun z => bSh_isUnder_10 x2 g z.1 z.2) n Qx (.inr (.inl ())) → nt_G p l e (nt_rm 1) s m args below meth c w A 0 0 Q 5 27 [(0, .ref (nt_a w 1)), (2, .int x2)] [] g := hE0
    have hE1 :  nt_Qz (fun z => bSh_isUnder_10 x2 g z.1 z.2) n Qx (.inr (.inr ())) → nt_G p l e (nt_rm 1) s m args below meth c w A 0 0 Q 5 41 [(0, .ref (nt_a w 1)), (2, .int x2)] [] g := hE1
    generalize nt_Qz (fun z => bSh_isUnder_10 x2 g z.1 z.2) n Qx = Qz at h hI hE0 hE1
    unfold bSh_isUnder_10 at h
    refine nt_iload X dX5_isUnder_10 3 rfl ?_
    refine nt_bipush X dX5_isUnder_12 nt_cb_6 ?_
    obtain ⟨ht, hf⟩ := nt_R_if h
    refine nt_icmp_ge X 41 dX5_isUnder_14 (by decide) (fun q3 => ?_) (fun q3 => ?_)
    · have h := ht q3
      refine nt_sub [0, 1] rfl ?_
      have h := nt_R_some h
      exact hE1 h
    · have h := hf q3
      refine nt_iload_n X dX5_isUnder_17 rfl 2 rfl ?_
      refine nt_iconst X dX5_isUnder_18 nt_ci_m1 ?_
      obtain ⟨ht, hf⟩ := nt_R_if h
      refine nt_icmp_eq X 41 dX5_isUnder_19 (by decide) (fun q4 => ?_) (fun q4 => ?_)
      · have h := ht q4
        refine nt_sub [0, 1] rfl ?_
        have h := nt_R_some h
        exact hE1 h
      · have h := hf q4
        refine nt_iload_n X dX5_isUnder_22 rfl 2 rfl ?_
        refine nt_iload_n X dX5_isUnder_23 rfl 1 rfl ?_
        obtain ⟨ht, hf⟩ := nt_R_if h
        refine nt_icmp_ne X 29 dX5_isUnder_24 (by decide) (fun q5 => ?_) (fun q5 => ?_)
        · have h := hf q5
          refine nt_gund X wd_613 dX5_isUnder_29 ?_
          refine nt_iload_n X dX5_isUnder_32 rfl 2 rfl ?_
          obtain ⟨q6, h⟩ := nt_R_gd h
          refine nt_uld X q6 dX5_isUnder_33 ?_
          obtain ⟨v7, ev7, h⟩ := nt_R_lt h
          refine nt_topi ev7 ?_
          refine nt_istore_n X [(3, .int v7), (0, .ref (nt_a w 1)), (2, .int x2), (4, .int x4)] dX5_isUnder_34 rfl (by decide) rfl ?_
          obtain ⟨v8, ev8, h⟩ := nt_R_lt h
          refine nt_iinc X v8 [(4, .int v8), (3, .int v7), (0, .ref (nt_a w 1)), (2, .int x2)] dX5_isUnder_35 3 rfl (by rw [nt_ci_1]; exact ev8) (by decide) rfl ?_
          refine nt_goto X 10 dX5_isUnder_38 (by decide) ?_
          refine nt_sub [2, 3, 1, 0] rfl ?_
          have h := nt_R_some h
          exact hI v7 v8 h
        · have h := ht q5
          refine nt_sub [0, 1] rfl ?_
          have h := nt_R_some h
          exact hE0 h
def fSh_isUnder (x1 : Int32) (x2 : Int32) (g : nt_T) : Option (Int32) :=
  nt_gd (nt_in x1 8) <| nt_lt (g 2 (Int32.toNatClampNeg x1)) fun v2 => (nt_b1 (nt_it (fun z => bSh_isUnder_10 x2 g z.1 z.2) nt_fu (v2, (0 : Int32))) fun z9 => match z9 with
  | (.inl _) => some (1 : Int32)
  | .inr (_) => some (0 : Int32))
set_option maxRecDepth 100000 in
set_option maxHeartbeats 4000000 in
theorem cSh_isUnder {l : Launch} {w : nt_w} (hw : nt_isX w) {x1 : Int32} {x2 : Int32} {g : nt_T} {r : Int32} (hf : fSh_isUnder x1 x2 g = some r) : nt_Mi l w yX5_isUnder cX5_isUnder 5 (some .boolean) 1 [.ref (nt_a w 1), .int x1, .int x2] g r g := by
  refine nt_Mi_of (by decide) (Nat.le_of_ble_eq_true rfl) (fun p e s m args below meth c A X => ?_)
  have X : nt_X cX5_isUnder 5 RX5 (some .boolean) w A p s m args meth c := X
  have hg : g = g := rfl
  have h : nt_R (fSh_isUnder x1 x2 g) (fun z => z = r) := ⟨_, hf, rfl⟩
  unfold fSh_isUnder at h
  show nt_G p l e (nt_rm 1) s m args below meth c w A 0 0 (nt_Qi w A below args s r g) 5 0 [(0, .ref (nt_a w 1)), (1, .int x1), (2, .int x2)] [] g
  refine nt_aload_n X dX5_isUnder_0 rfl 0 rfl ?_
  refine nt_get X 1 inX5 (nt_lX hw (Nat.le_of_ble_eq_true rfl)) (nt_e1 hw) rfl (j := 0) (by decide) wd_31 (v := .ref (nt_a w 2)) rfl dX5_isUnder_1 ?_
  refine nt_iload_n X dX5_isUnder_4 rfl 1 rfl ?_
  obtain ⟨q1, h⟩ := nt_R_gd h
  refine nt_iald X 2 0 (nt_lX hw (Nat.le_of_ble_eq_true rfl)) (nt_e2 hw) (nt_tX hw) q1 dX5_isUnder_5 ?_
  obtain ⟨v2, ev2, h⟩ := nt_R_lt h
  refine nt_topi ev2 ?_
  refine nt_istore_n X [(3, .int v2), (0, .ref (nt_a w 1)), (1, .int x1), (2, .int x2)] dX5_isUnder_6 rfl (by decide) rfl ?_
  refine nt_iconst X dX5_isUnder_7 nt_ci_0 ?_
  refine nt_istore X [(4, .int (0 : Int32)), (3, .int v2), (0, .ref (nt_a w 1)), (1, .int x1), (2, .int x2)] dX5_isUnder_8 (by decide) rfl ?_
  obtain ⟨z9, hz9, h⟩ := nt_R_b1 h
  refine nt_sub [2, 4, 1, 0] rfl ?_
  refine tbSh_isUnder_10 hw X x2 g (Qx := fun z => z = z9) (fun hq => ?_) (fun hq => ?_) nt_fu v2 (0 : Int32) ⟨_, hz9, rfl⟩
  · subst hq
    refine nt_iconst X dX5_isUnder_27 nt_ci_1 ?_
    have h := nt_R_some h
    exact nt_zret X rfl dX5_isUnder_28 (nt_pe h hg)
  · subst hq
    refine nt_iconst X dX5_isUnder_41 nt_ci_0 ?_
    have h := nt_R_some h
    exact nt_zret X rfl dX5_isUnder_42 (nt_pe h hg)
