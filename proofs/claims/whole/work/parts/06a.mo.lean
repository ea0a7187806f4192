def fMo_in (x0 : Int64) (x2 : Int64) (x4 : Int64) (g : nt_T) : Option (Int32) :=
  (if (lg_cmp x0 x2) < 0 then
    (some (0 : Int32))
  else
    ((if 0 < (lg_cmp x0 x4) then
    (some (0 : Int32))
  else
    (some (1 : Int32)))))
set_option maxRecDepth 100000 in
set_option maxHeartbeats 4000000 in
theorem cMo_in {l : Launch} {w : nt_w} (hw : nt_isM w) {x0 : Int64} {x2 : Int64} {x4 : Int64} {g : nt_T} {r : Int32} (hf : fMo_in x0 x2 x4 g = some r) : nt_Mi l w yX9_in cX9_in 6 (some .boolean) 1 [.long x0, .long x2, .long x4] g r g := by
  refine nt_Mi_of (by decide) (Nat.le_of_ble_eq_true rfl) (fun p e s m args below meth c A X => ?_)
  have X : nt_X cX9_in 6 RX9 (some .boolean) w A p s m args meth c := X
  have hg : g = g := rfl
  have h : nt_R (fMo_in x0 x2 x4 g) (fun z => z = r) := ⟨_, hf, rfl⟩
  unfold fMo_in at h
  show nt_G p l e (nt_rm 1) s m args below meth c w A 0 0 (nt_Qi w A below args s r g) 6 0 [(0, .long x0), (2, .long x2), (4, .long x4)] [] g
  refine nt_lload_n X dX9_in_0 rfl 0 rfl ?_
  refine nt_lload_n X dX9_in_1 rfl 1 rfl ?_
  refine nt_lcmp X dX9_in_2 ?_
  obtain ⟨ht, hf⟩ := nt_R_if h
  refine nt_if_lt X 17 dX9_in_3 (by decide) (fun q1 => ?_) (fun q1 => ?_)
  · have h := ht q1
    refine nt_iconst X dX9_in_17 nt_ci_0 ?_
    have h := nt_R_some h
    exact nt_zret X rfl dX9_in_18 (nt_pe h hg)
  · have h := hf q1
    refine nt_lload_n X dX9_in_6 rfl 0 rfl ?_
    refine nt_lload X dX9_in_7 2 rfl ?_
    refine nt_lcmp X dX9_in_9 ?_
    obtain ⟨ht, hf⟩ := nt_R_if h
    refine nt_if_gt X 17 dX9_in_10 (by decide) (fun q2 => ?_) (fun q2 => ?_)
    · have h := ht q2
      refine nt_iconst X dX9_in_17 nt_ci_0 ?_
      have h := nt_R_some h
      exact nt_zret X rfl dX9_in_18 (nt_pe h hg)
    · have h := hf q2
      refine nt_iconst X dX9_in_13 nt_ci_1 ?_
      refine nt_goto X 18 dX9_in_14 (by decide) ?_
      have h := nt_R_some h
      exact nt_zret X rfl dX9_in_18 (nt_pe h hg)
def fMo_within (x0 : Int32) (x1 : Int32) (x2 : Int32) (g : nt_T) : Option (Int32) :=
  (if x1 ≤ x0 then
    ((if x0 ≤ x2 then
    (some x0)
  else
    (some x2)))
  else
    (some x1))
set_option maxRecDepth 100000 in
set_option maxHeartbeats 4000000 in
theorem cMo_within {l : Launch} {w : nt_w} (hw : nt_isM w) {x0 : Int32} {x1 : Int32} {x2 : Int32} {g : nt_T} {r : Int32} (hf : fMo_within x0 x1 x2 g = some r) : nt_Mi l w yX9_within cX9_within 3 (some .int) 1 [.int x0, .int x1, .int x2] g r g := by
  refine nt_Mi_of (by decide) (Nat.le_of_ble_eq_true rfl) (fun p e s m args below meth c A X => ?_)
  have X : nt_X cX9_within 3 RX9 (some .int) w A p s m args meth c := X
  have hg : g = g := rfl
  have h : nt_R (fMo_within x0 x1 x2 g) (fun z => z = r) := ⟨_, hf, rfl⟩
  unfold fMo_within at h
  show nt_G p l e (nt_rm 1) s m args below meth c w A 0 0 (nt_Qi w A below args s r g) 3 0 [(0, .int x0), (1, .int x1), (2, .int x2)] [] g
  refine nt_iload_n X dX9_within_0 rfl 0 rfl ?_
  refine nt_iload_n X dX9_within_1 rfl 1 rfl ?_
  obtain ⟨ht, hf⟩ := nt_R_if h
  refine nt_icmp_ge X 9 dX9_within_2 (by decide) (fun q1 => ?_) (fun q1 => ?_)
  · have h := ht q1
    refine nt_iload_n X dX9_within_9 rfl 0 rfl ?_
    refine nt_iload_n X dX9_within_10 rfl 2 rfl ?_
    obtain ⟨ht, hf⟩ := nt_R_if h
    refine nt_icmp_le X 18 dX9_within_11 (by decide) (fun q2 => ?_) (fun q2 => ?_)
    · have h := ht q2
      refine nt_iload_n X dX9_within_18 rfl 0 rfl ?_
      have h := nt_R_some h
      exact nt_iret X dX9_within_19 (nt_pe h hg)
    · have h := hf q2
      refine nt_iload_n X dX9_within_14 rfl 2 rfl ?_
      refine nt_goto X 19 dX9_within_15 (by decide) ?_
      have h := nt_R_some h
      exact nt_iret X dX9_within_19 (nt_pe h hg)
  · have h := hf q1
    refine nt_iload_n X dX9_within_5 rfl 1 rfl ?_
    refine nt_goto X 19 dX9_within_6 (by decide) ?_
    have h := nt_R_some h
    exact nt_iret X dX9_within_19 (nt_pe h hg)
def bMo_bitsOf_4 (g : nt_T) (x1 : Int32) (x2 : Int32) : Option ((Int32 × Int32) ⊕ ((Int32))) :=
  (if x2 = 0 then
    (some (.inr x1))
  else
    (nt_lt (x1 + (1 : Int32)) fun v2 => nt_lt (x2 &&& (x2 - (1 : Int32))) fun v3 => some (.inl (v2, v3))))
set_option maxRecDepth 100000 in
set_option maxHeartbeats 4000000 in
theorem tbMo_bitsOf_4 {p : Program} {l : Launch} {e : Env} {s : State} {m : MethodId} {args : Array Value} {below : List Frame} {meth : Method} {c : Code} {w : nt_w} {A : Nat → Prop} (hw : nt_isM w) {Q : State → Prop} (X : nt_X cX9_bitsOf 3 RX9 (some .int) w A p s m args meth c) (g : nt_T)  {Qx : ((Int32)) → Prop} (hE0 : ∀ (y1 : Int32), Qx y1 → nt_G p l e (nt_rm 1) s m args below meth c w A 0 0 Q 3 20 [(1, .int y1)] [] g) : ∀ (n : Nat) (x1 : Int32) (x2 : Int32), nt_R (nt_it (fun z => bMo_bitsOf_4 g z.1 z.2) n (x1, x2)) Qx → nt_G p l e (nt_rm 1) s m args below meth c w A 0 0 Q 3 4 [(1, .int x1), (2, .int x2)] [] g := by
  intro n
  induction n with
  | zero =>
    intro x1 x2 h
    exact nt_R_none h
  | succ n ih =>
    intro x1 x2 h
    have h : nt_R (bMo_bitsOf_4 g x1 x2) (nt_Qz (fun z => bMo_bitsOf_4 g z.1 z.2) n Qx) := nt_R_it h
    have hI : ∀ (y1 : Int32) (y2 : Int32), nt_Qz (fun z => bMo_bitsOf_4 g z.1 z.2) n Qx (.inl (y1, y2)) → nt_G p l e (nt_rm 1) s m args below meth c w A 0 0 Q 3 4 [(1, .int y1), (2, .int y2)] [] g := fun y1 y2 q => ih y1 y2 q
    have hE0 : ∀ (y1 : Int32), nt_Qz (fun z => bMo_bitsOf_4 g z.1 z.2) n Qx (.inr y1) → nt_G p l e (nt_rm 1) s m args below meth c w A 0 0 Q 3 20 [(1, .int y1)] [] g := hE0
    generalize nt_Qz (fun z => bMo_bitsOf_4 g z.1 z.2) n Qx = Qz at h hI hE0
    unfold bMo_bitsOf_4 at h
    refine nt_iload_n X dX9_bitsOf_4 rfl 1 rfl ?_
    obtain ⟨ht, hf⟩ := nt_R_if h
    refine nt_if_eq X 20 dX9_bitsOf_5 (by decide) (fun q1 => ?_) (fun q1 => ?_)
    · have h := ht q1
      refine nt_sub [0] rfl ?_
      have h := nt_R_some h
      exact hE0 x1 h
    · have h := hf q1
      obtain ⟨v2, ev2, h⟩ := nt_R_lt h
      refine nt_iinc X v2 [(1, .int v2), (2, .int x2)] dX9_bitsOf_8 0 rfl (by rw [nt_ci_1]; exact ev2) (by decide) rfl ?_
      refine nt_iload_n X dX9_bitsOf_11 rfl 1 rfl ?_
      refine nt_iload_n X dX9_bitsOf_12 rfl 1 rfl ?_
      refine nt_iconst X dX9_bitsOf_13 nt_ci_1 ?_
      refine nt_isub X dX9_bitsOf_14 ?_
      refine nt_iand X dX9_bitsOf_15 ?_
      obtain ⟨v3, ev3, h⟩ := nt_R_lt h
      refine nt_topi ev3 ?_
      refine nt_istore_n X [(2, .int v3), (1, .int v2)] dX9_bitsOf_16 rfl (by decide) rfl ?_
      refine nt_goto X 4 dX9_bitsOf_17 (by decide) ?_
      refine nt_sub [1, 0] rfl ?_
      have h := nt_R_some h
      exact hI v2 v3 h
def fMo_bitsOf (x0 : Int32) (g : nt_T) : Option (Int32) :=
  (nt_b1 (nt_it (fun z => bMo_bitsOf_4 g z.1 z.2) nt_fu ((0 : Int32), x0)) fun v4 => some v4)
set_option maxRecDepth 100000 in
set_option maxHeartbeats 4000000 in
theorem cMo_bitsOf {l : Launch} {w : nt_w} (hw : nt_isM w) {x0 : Int32} {g : nt_T} {r : Int32} (hf : fMo_bitsOf x0 g = some r) : nt_Mi l w yX9_bitsOf cX9_bitsOf 3 (some .int) 1 [.int x0] g r g := by
  refine nt_Mi_of (by decide) (Nat.le_of_ble_eq_true rfl) (fun p e s m args below meth c A X => ?_)
  have X : nt_X cX9_bitsOf 3 RX9 (some .int) w A p s m args meth c := X
  have hg : g = g := rfl
  have h : nt_R (fMo_bitsOf x0 g) (fun z => z = r) := ⟨_, hf, rfl⟩
  unfold fMo_bitsOf at h
  show nt_G p l e (nt_rm 1) s m args below meth c w A 0 0 (nt_Qi w A below args s r g) 3 0 [(0, .int x0)] [] g
  refine nt_iconst X dX9_bitsOf_0 nt_ci_0 ?_
  refine nt_istore_n X [(1, .int (0 : Int32)), (0, .int x0)] dX9_bitsOf_1 rfl (by decide) rfl ?_
  refine nt_iload_n X dX9_bitsOf_2 rfl 1 rfl ?_
  refine nt_istore_n X [(2, .int x0), (1, .int (0 : Int32)), (0, .int x0)] dX9_bitsOf_3 rfl (by decide) rfl ?_
  obtain ⟨z5, hz5, h⟩ := nt_R_b1 h
  refine nt_sub [1, 0] rfl ?_
  refine tbMo_bitsOf_4 hw X g (Qx := fun z => z = z5) (fun v4 hq => ?_) nt_fu (0 : Int32) x0 ⟨_, hz5, rfl⟩
  subst hq
  refine nt_iload_n X dX9_bitsOf_20 rfl 0 rfl ?_
  have h := nt_R_some h
  exact nt_iret X dX9_bitsOf_21 (nt_pe h hg)
def fMo_spell (x1 : Int32) (x2 : Int32) (x3 : Int32) (x4 : Int32) (x5 : Int32) (x6 : Int32) (x7 : Int32) (x8 : Int32) (x9 : Int32) (g : nt_T) : Option (nt_T) :=
  nt_gd (nt_in x1 960) <| nt_lt (nt_st g 1 (Int32.toNatClampNeg x1) x2) fun g2 => nt_gd (nt_in (x1 + (1 : Int32)) 960) <| nt_lt (nt_st g2 1 (Int32.toNatClampNeg (x1 + (1 : Int32))) x3) fun g4 => nt_gd (nt_in (x1 + (2 : Int32)) 960) <| nt_lt (nt_st g4 1 (Int32.toNatClampNeg (x1 + (2 : Int32))) x4) fun g6 => nt_gd (nt_in (x1 + (3 : Int32)) 960) <| nt_lt (nt_st g6 1 (Int32.toNatClampNeg (x1 + (3 : Int32))) x5) fun g8 => nt_gd (nt_in (x1 + (4 : Int32)) 960) <| nt_lt (nt_st g8 1 (Int32.toNatClampNeg (x1 + (4 : Int32))) x6) fun g10 => nt_gd (nt_in (x1 + (5 : Int32)) 960) <| nt_lt (nt_st g10 1 (Int32.toNatClampNeg (x1 + (5 : Int32))) x7) fun g12 => nt_gd (nt_in (x1 + (6 : Int32)) 960) <| nt_lt (nt_st g12 1 (Int32.toNatClampNeg (x1 + (6 : Int32))) x8) fun g14 => nt_gd (nt_in (x1 + (7 : Int32)) 960) <| nt_lt (nt_st g14 1 (Int32.toNatClampNeg (x1 + (7 : Int32))) x9) fun g16 => some g16
set_option maxRecDepth 100000 in
set_option maxHeartbeats 4000000 in
theorem cMo_spell {l : Launch} {w : nt_w} (hw : nt_isM w) {x1 : Int32} {x2 : Int32} {x3 : Int32} {x4 : Int32} {x5 : Int32} {x6 : Int32} {x7 : Int32} {x8 : Int32} {x9 : Int32} {g : nt_T} {g2 : nt_T} (hf : fMo_spell x1 x2 x3 x4 x5 x6 x7 x8 x9 g = some g2) : nt_Mv l w yX9_spell cX9_spell 10 none 1 [.ref (nt_a w 0), .int x1, .int x2, .int x3, .int x4, .int x5, .int x6, .int x7, .int x8, .int x9] g g2 := by
  refine nt_Mv_of (by decide) (Nat.le_of_ble_eq_true rfl) (fun p e s m args below meth c A X => ?_)
  have X : nt_X cX9_spell 10 RX9 none w A p s m args meth c := X
  have h : nt_R (fMo_spell x1 x2 x3 x4 x5 x6 x7 x8 x9 g) (fun z => z = g2) := ⟨_, hf, rfl⟩
  unfold fMo_spell at h
  show nt_G p l e (nt_rm 1) s m args below meth c w A 0 0 (nt_Qv w A below args s g2) 10 0 [(0, .ref (nt_a w 0)), (1, .int x1), (2, .int x2), (3, .int x3), (4, .int x4), (5, .int x5), (6, .int x6), (7, .int x7), (8, .int x8), (9, .int x9)] [] g
  refine nt_aload_n X dX9_spell_0 rfl 0 rfl ?_
  refine nt_get X 0 inX9 (nt_lM hw (Nat.le_of_ble_eq_true rfl)) (nt_m0 hw) rfl (j := 1) (by decide) wd_623 (v := .ref (nt_a w 1)) rfl dX9_spell_1 ?_
  refine nt_iload_n X dX9_spell_4 rfl 1 rfl ?_
  refine nt_iload_n X dX9_spell_5 rfl 2 rfl ?_
  obtain ⟨q1, h⟩ := nt_R_gd h
  refine nt_iast X 1 0 (nt_lM hw (Nat.le_of_ble_eq_true rfl)) (nt_m1 hw) (nt_tM hw) q1 dX9_spell_6 ?_
  obtain ⟨g2, eg2, h⟩ := nt_R_lt h
  refine nt_geq eg2 ?_
  refine nt_aload_n X dX9_spell_7 rfl 0 rfl ?_
  refine nt_get X 0 inX9 (nt_lM hw (Nat.le_of_ble_eq_true rfl)) (nt_m0 hw) rfl (j := 1) (by decide) wd_623 (v := .ref (nt_a w 1)) rfl dX9_spell_8 ?_
  refine nt_iload_n X dX9_spell_11 rfl 1 rfl ?_
  refine nt_iconst X dX9_spell_12 nt_ci_1 ?_
  refine nt_iadd X dX9_spell_13 ?_
  refine nt_iload_n X dX9_spell_14 rfl 3 rfl ?_
  obtain ⟨q3, h⟩ := nt_R_gd h
  refine nt_iast X 1 0 (nt_lM hw (Nat.le_of_ble_eq_true rfl)) (nt_m1 hw) (nt_tM hw) q3 dX9_spell_15 ?_
  obtain ⟨g4, eg4, h⟩ := nt_R_lt h
  refine nt_geq eg4 ?_
  refine nt_aload_n X dX9_spell_16 rfl 0 rfl ?_
  refine nt_get X 0 inX9 (nt_lM hw (Nat.le_of_ble_eq_true rfl)) (nt_m0 hw) rfl (j := 1) (by decide) wd_623 (v := .ref (nt_a w 1)) rfl dX9_spell_17 ?_
  refine nt_iload_n X dX9_spell_20 rfl 1 rfl ?_
  refine nt_iconst X dX9_spell_21 nt_ci_2 ?_
  refine nt_iadd X dX9_spell_22 ?_
  refine nt_iload X dX9_spell_23 4 rfl ?_
  obtain ⟨q5, h⟩ := nt_R_gd h
  refine nt_iast X 1 0 (nt_lM hw (Nat.le_of_ble_eq_true rfl)) (nt_m1 hw) (nt_tM hw) q5 dX9_spell_25 ?_
  obtain ⟨g6, eg6, h⟩ := nt_R_lt h
  refine nt_geq eg6 ?_
  refine nt_aload_n X dX9_spell_26 rfl 0 rfl ?_
  refine nt_get X 0 inX9 (nt_lM hw (Nat.le_of_ble_eq_true rfl)) (nt_m0 hw) rfl (j := 1) (by decide) wd_623 (v := .ref (nt_a w 1)) rfl dX9_spell_27 ?_
  refine nt_iload_n X dX9_spell_30 rfl 1 rfl ?_
  refine nt_iconst X dX9_spell_31 nt_ci_3 ?_
  refine nt_iadd X dX9_spell_32 ?_
  refine nt_iload X dX9_spell_33 5 rfl ?_
  obtain ⟨q7, h⟩ := nt_R_gd h
  refine nt_iast X 1 0 (nt_lM hw (Nat.le_of_ble_eq_true rfl)) (nt_m1 hw) (nt_tM hw) q7 dX9_spell_35 ?_
  obtain ⟨g8, eg8, h⟩ := nt_R_lt h
  refine nt_geq eg8 ?_
  refine nt_aload_n X dX9_spell_36 rfl 0 rfl ?_
  refine nt_get X 0 inX9 (nt_lM hw (Nat.le_of_ble_eq_true rfl)) (nt_m0 hw) rfl (j := 1) (by decide) wd_623 (v := .ref (nt_a w 1)) rfl dX9_spell_37 ?_
  refine nt_iload_n X dX9_spell_40 rfl 1 rfl ?_
  refine nt_iconst X dX9_spell_41 nt_ci_4 ?_
  refine nt_iadd X dX9_spell_42 ?_
  refine nt_iload X dX9_spell_43 6 rfl ?_
  obtain ⟨q9, h⟩ := nt_R_gd h
  refine nt_iast X 1 0 (nt_lM hw (Nat.le_of_ble_eq_true rfl)) (nt_m1 hw) (nt_tM hw) q9 dX9_spell_45 ?_
  obtain ⟨g10, eg10, h⟩ := nt_R_lt h
  refine nt_geq eg10 ?_
  refine nt_aload_n X dX9_spell_46 rfl 0 rfl ?_
  refine nt_get X 0 inX9 (nt_lM hw (Nat.le_of_ble_eq_true rfl)) (nt_m0 hw) rfl (j := 1) (by decide) wd_623 (v := .ref (nt_a w 1)) rfl dX9_spell_47 ?_
  refine nt_iload_n X dX9_spell_50 rfl 1 rfl ?_
  refine nt_iconst X dX9_spell_51 nt_ci_5 ?_
  refine nt_iadd X dX9_spell_52 ?_
  refine nt_iload X dX9_spell_53 7 rfl ?_
  obtain ⟨q11, h⟩ := nt_R_gd h
  refine nt_iast X 1 0 (nt_lM hw (Nat.le_of_ble_eq_true rfl)) (nt_m1 hw) (nt_tM hw) q11 dX9_spell_55 ?_
  obtain ⟨g12, eg12, h⟩ := nt_R_lt h
  refine nt_geq eg12 ?_
  refine nt_aload_n X dX9_spell_56 rfl 0 rfl ?_
  refine nt_get X 0 inX9 (nt_lM hw (Nat.le_of_ble_eq_true rfl)) (nt_m0 hw) rfl (j := 1) (by decide) wd_623 (v := .ref (nt_a w 1)) rfl dX9_spell_57 ?_
  refine nt_iload_n X dX9_spell_60 rfl 1 rfl ?_
  refine nt_bipush X dX9_spell_61 nt_cb_6 ?_
  refine nt_iadd X dX9_spell_63 ?_
  refine nt_iload X dX9_spell_64 8 rfl ?_
  obtain ⟨q13, h⟩ := nt_R_gd h
  refine nt_iast X 1 0 (nt_lM hw (Nat.le_of_ble_eq_true rfl)) (nt_m1 hw) (nt_tM hw) q13 dX9_spell_66 ?_
  obtain ⟨g14, eg14, h⟩ := nt_R_lt h
  refine nt_geq eg14 ?_
  refine nt_aload_n X dX9_spell_67 rfl 0 rfl ?_
  refine nt_get X 0 inX9 (nt_lM hw (Nat.le_of_ble_eq_true rfl)) (nt_m0 hw) rfl (j := 1) (by decide) wd_623 (v := .ref (nt_a w 1)) rfl dX9_spell_68 ?_
  refine nt_iload_n X dX9_spell_71 rfl 1 rfl ?_
  refine nt_bipush X dX9_spell_72 nt_cb_7 ?_
  refine nt_iadd X dX9_spell_74 ?_
  refine nt_iload X dX9_spell_75 9 rfl ?_
  obtain ⟨q15, h⟩ := nt_R_gd h
  refine nt_iast X 1 0 (nt_lM hw (Nat.le_of_ble_eq_true rfl)) (nt_m1 hw) (nt_tM hw) q15 dX9_spell_77 ?_
  obtain ⟨g16, eg16, h⟩ := nt_R_lt h
  refine nt_geq eg16 ?_
  have h := nt_R_some h
  exact nt_vret X dX9_spell_78 h
def fMo_isStory (x1 : Int32) (g : nt_T) : Option (Int32) :=
  nt_b1 (fMo_in (Int32.toInt64 x1) (0 : Int64) (Int32.toInt64 ((g 0 11) - (1 : Int32))) g) fun r1 => nt_gd (decide (narrow .boolean (.int r1) = .int r1)) <| some r1
set_option maxRecDepth 100000 in
set_option maxHeartbeats 4000000 in
theorem cMo_isStory {l : Launch} {w : nt_w} (hw : nt_isM w) {x1 : Int32} {g : nt_T} {r : Int32} (hf : fMo_isStory x1 g = some r) : nt_Mi l w yX9_isStory cX9_isStory 2 (some .boolean) 3 [.ref (nt_a w 0), .int x1] g r g := by
  refine nt_Mi_of (by decide) (Nat.le_of_ble_eq_true rfl) (fun p e s m args below meth c A X => ?_)
  have X : nt_X cX9_isStory 2 RX9 (some .boolean) w A p s m args meth c := X
  have hg : g = g := rfl
  have h : nt_R (fMo_isStory x1 g) (fun z => z = r) := ⟨_, hf, rfl⟩
  unfold fMo_isStory at h
  show nt_G p l e (nt_rm 3) s m args below meth c w A 0 0 (nt_Qi w A below args s r g) 2 0 [(0, .ref (nt_a w 0)), (1, .int x1)] [] g
  refine nt_iload_n X dX9_isStory_0 rfl 1 rfl ?_
  refine nt_i2l X dX9_isStory_1 rfl ?_
  refine nt_lconst X dX9_isStory_2 nt_cl_0 ?_
  refine nt_aload_n X dX9_isStory_3 rfl 0 rfl ?_
  refine nt_get X 0 inX9 (nt_lM hw (Nat.le_of_ble_eq_true rfl)) (nt_m0 hw) rfl (j := 11) (by decide) wd_633 (v := .int (g 0 11)) rfl dX9_isStory_4 ?_
  refine nt_iconst X dX9_isStory_7 nt_ci_1 ?_
  refine nt_isub X dX9_isStory_8 ?_
  refine nt_i2l X dX9_isStory_9 rfl ?_
  obtain ⟨r1, er1, h⟩ := nt_R_b1 h
  refine nt_cSi X (As := [.long (Int32.toInt64 x1), .long (0 : Int64), .long (Int32.toInt64 ((g 0 11) - (1 : Int32)))]) (cMo_in hw er1) wd_732 wd_730 wd_731 wd_16 hd_X9_in ⟨Nat.le_of_ble_eq_true rfl, Nat.le_of_ble_eq_true rfl⟩ ⟨Nat.le_refl 0, Nat.le_refl 0⟩ (Nat.le_of_ble_eq_true rfl) rfl dX9_isStory_10 ?_
  obtain ⟨q2, h⟩ := nt_R_gd h
  have h := nt_R_some h
  exact nt_zret X (of_decide_eq_true q2) dX9_isStory_13 (nt_pe h hg)
def fMo_isPerson (x1 : Int32) (g : nt_T) : Option (Int32) :=
  nt_b1 (fMo_in (Int32.toInt64 x1) (0 : Int64) (Int32.toInt64 ((g 0 17) - (1 : Int32))) g) fun r1 => nt_gd (decide (narrow .boolean (.int r1) = .int r1)) <| some r1
set_option maxRecDepth 100000 in
set_option maxHeartbeats 4000000 in
theorem cMo_isPerson {l : Launch} {w : nt_w} (hw : nt_isM w) {x1 : Int32} {g : nt_T} {r : Int32} (hf : fMo_isPerson x1 g = some r) : nt_Mi l w yX9_isPerson cX9_isPerson 2 (some .boolean) 3 [.ref (nt_a w 0), .int x1] g r g := by
  refine nt_Mi_of (by decide) (Nat.le_of_ble_eq_true rfl) (fun p e s m args below meth c A X => ?_)
  have X : nt_X cX9_isPerson 2 RX9 (some .boolean) w A p s m args meth c := X
  have hg : g = g := rfl
  have h : nt_R (fMo_isPerson x1 g) (fun z => z = r) := ⟨_, hf, rfl⟩
  unfold fMo_isPerson at h
  show nt_G p l e (nt_rm 3) s m args below meth c w A 0 0 (nt_Qi w A below args s r g) 2 0 [(0, .ref (nt_a w 0)), (1, .int x1)] [] g
  refine nt_iload_n X dX9_isPerson_0 rfl 1 rfl ?_
  refine nt_i2l X dX9_isPerson_1 rfl ?_
  refine nt_lconst X dX9_isPerson_2 nt_cl_0 ?_
  refine nt_aload_n X dX9_isPerson_3 rfl 0 rfl ?_
  refine nt_get X 0 inX9 (nt_lM hw (Nat.le_of_ble_eq_true rfl)) (nt_m0 hw) rfl (j := 17) (by decide) wd_639 (v := .int (g 0 17)) rfl dX9_isPerson_4 ?_
  refine nt_iconst X dX9_isPerson_7 nt_ci_1 ?_
  refine nt_isub X dX9_isPerson_8 ?_
  refine nt_i2l X dX9_isPerson_9 rfl ?_
  obtain ⟨r1, er1, h⟩ := nt_R_b1 h
  refine nt_cSi X (As := [.long (Int32.toInt64 x1), .long (0 : Int64), .long (Int32.toInt64 ((g 0 17) - (1 : Int32)))]) (cMo_in hw er1) wd_732 wd_730 wd_731 wd_16 hd_X9_in ⟨Nat.le_of_ble_eq_true rfl, Nat.le_of_ble_eq_true rfl⟩ ⟨Nat.le_refl 0, Nat.le_refl 0⟩ (Nat.le_of_ble_eq_true rfl) rfl dX9_isPerson_10 ?_
  obtain ⟨q2, h⟩ := nt_R_gd h
  have h := nt_R_some h
  exact nt_zret X (of_decide_eq_true q2) dX9_isPerson_13 (nt_pe h hg)
def fMo_isHouse (x0 : Int32) (g : nt_T) : Option (Int32) :=
  nt_b1 (fMo_in (Int32.toInt64 x0) (0 : Int64) (3 : Int64) g) fun r1 => nt_gd (decide (narrow .boolean (.int r1) = .int r1)) <| some r1
set_option maxRecDepth 100000 in
set_option maxHeartbeats 4000000 in
theorem cMo_isHouse {l : Launch} {w : nt_w} (hw : nt_isM w) {x0 : Int32} {g : nt_T} {r : Int32} (hf : fMo_isHouse x0 g = some r) : nt_Mi l w yX9_isHouse cX9_isHouse 1 (some .boolean) 3 [.int x0] g r g := by
  refine nt_Mi_of (by decide) (Nat.le_of_ble_eq_true rfl) (fun p e s m args below meth c A X => ?_)
  have X : nt_X cX9_isHouse 1 RX9 (some .boolean) w A p s m args meth c := X
  have hg : g = g := rfl
  have h : nt_R (fMo_isHouse x0 g) (fun z => z = r) := ⟨_, hf, rfl⟩
  unfold fMo_isHouse at h
  show nt_G p l e (nt_rm 3) s m args below meth c w A 0 0 (nt_Qi w A below args s r g) 1 0 [(0, .int x0)] [] g
  refine nt_iload_n X dX9_isHouse_0 rfl 0 rfl ?_
  refine nt_i2l X dX9_isHouse_1 rfl ?_
  refine nt_lconst X dX9_isHouse_2 nt_cl_0 ?_
  refine nt_ldc2 X wd_758 dX9_isHouse_3 ?_
  obtain ⟨r1, er1, h⟩ := nt_R_b1 h
  refine nt_cSi X (As := [.long (Int32.toInt64 x0), .long (0 : Int64), .long (3 : Int64)]) (cMo_in hw er1) wd_732 wd_730 wd_731 wd_16 hd_X9_in ⟨Nat.le_of_ble_eq_true rfl, Nat.le_of_ble_eq_true rfl⟩ ⟨Nat.le_refl 0, Nat.le_refl 0⟩ (Nat.le_of_ble_eq_true rfl) rfl dX9_isHouse_6 ?_
  obtain ⟨q2, h⟩ := nt_R_gd h
  have h := nt_R_some h
  exact nt_zret X (of_decide_eq_true q2) dX9_isHouse_9 (nt_pe h hg)
def fMo_story (x1 : Int32) (x2 : Int32) (x3 : Int32) (g : nt_T) : Option (Int32 × nt_T) :=
  nt_b1 (fMo_in (Int32.toInt64 x1) (0 : Int64) (5 : Int64) g) fun r1 => (if r1 = 0 then
    (some ((-2 : Int32), g))
  else
    (nt_b1 (fMo_in (Int32.toInt64 x2) (0 : Int64) (9 : Int64) g) fun r3 => (if r3 = 0 then
    (some ((-2 : Int32), g))
  else
    (nt_b1 (fMo_in (Int32.toInt64 x3) (0 : Int64) (9 : Int64) g) fun r5 => (if r5 = 0 then
    (some ((-2 : Int32), g))
  else
    ((if (g 0 11) = (8 : Int32) then
    (some ((-4 : Int32), g))
  else
    (nt_gd (nt_in (g 0 11) 8) <| nt_lt (nt_st g 4 (Int32.toNatClampNeg (g 0 11)) x1) fun g9 => nt_gd (nt_in (g9 0 11) 8) <| nt_lt (nt_st g9 5 (Int32.toNatClampNeg (g9 0 11)) x2) fun g11 => nt_gd (nt_in (g11 0 11) 8) <| nt_lt (nt_st g11 6 (Int32.toNatClampNeg (g11 0 11)) x3) fun g13 => nt_gd (nt_in (g13 0 11) 8) <| nt_lt (nt_st g13 7 (Int32.toNatClampNeg (g13 0 11)) (-1 : Int32)) fun g15 => nt_lt (nt_st g15 0 11 ((g15 0 11) + (1 : Int32))) fun g16 => some (((g16 0 11) - (1 : Int32)), g16)))))))))
set_option maxRecDepth 100000 in
set_option maxHeartbeats 4000000 in
theorem cMo_story {l : Launch} {w : nt_w} (hw : nt_isM w) {x1 : Int32} {x2 : Int32} {x3 : Int32} {g : nt_T} {r : Int32} {g2 : nt_T} (hf : fMo_story x1 x2 x3 g = some (r, g2)) : nt_Mi l w yX9_story cX9_story 4 (some .int) 3 [.ref (nt_a w 0), .int x1, .int x2, .int x3] g r g2 := by
  refine nt_Mi_of (by decide) (Nat.le_of_ble_eq_true rfl) (fun p e s m args below meth c A X => ?_)
  have X : nt_X cX9_story 4 RX9 (some .int) w A p s m args meth c := X
  have h : nt_R (fMo_story x1 x2 x3 g) (fun z => z = (r, g2)) := ⟨_, hf, rfl⟩
  unfold fMo_story at h
  show nt_G p l e (nt_rm 3) s m args below meth c w A 0 0 (nt_Qi w A below args s r g2) 4 0 [(0, .ref (nt_a w 0)), (1, .int x1), (2, .int x2), (3, .int x3)] [] g
  refine nt_iload_n X dX9_story_0 rfl 1 rfl ?_
  refine nt_i2l X dX9_story_1 rfl ?_
  refine nt_lconst X dX9_story_2 nt_cl_0 ?_
  refine nt_ldc2 X wd_729 dX9_story_3 ?_
  obtain ⟨r1, er1, h⟩ := nt_R_b1 h
  refine nt_cSi X (As := [.long (Int32.toInt64 x1), .long (0 : Int64), .long (5 : Int64)]) (cMo_in hw er1) wd_732 wd_730 wd_731 wd_16 hd_X9_in ⟨Nat.le_of_ble_eq_true rfl, Nat.le_of_ble_eq_true rfl⟩ ⟨Nat.le_refl 0, Nat.le_refl 0⟩ (Nat.le_of_ble_eq_true rfl) rfl dX9_story_6 ?_
  obtain ⟨ht, hf⟩ := nt_R_if h
  refine nt_if_eq X 36 dX9_story_9 (by decide) (fun q2 => ?_) (fun q2 => ?_)
  · have h := ht q2
    refine nt_bipush X dX9_story_36 nt_cb_m2 ?_
    have h := nt_R_some h
    exact nt_iret X dX9_story_38 h
  · have h := hf q2
    refine nt_iload_n X dX9_story_12 rfl 2 rfl ?_
    refine nt_i2l X dX9_story_13 rfl ?_
    refine nt_lconst X dX9_story_14 nt_cl_0 ?_
    refine nt_ldc2 X wd_733 dX9_story_15 ?_
    obtain ⟨r3, er3, h⟩ := nt_R_b1 h
    refine nt_cSi X (As := [.long (Int32.toInt64 x2), .long (0 : Int64), .long (9 : Int64)]) (cMo_in hw er3) wd_732 wd_730 wd_731 wd_16 hd_X9_in ⟨Nat.le_of_ble_eq_true rfl, Nat.le_of_ble_eq_true rfl⟩ ⟨Nat.le_refl 0, Nat.le_refl 0⟩ (Nat.le_of_ble_eq_true rfl) rfl dX9_story_18 ?_
    obtain ⟨ht, hf⟩ := nt_R_if h
    refine nt_if_eq X 36 dX9_story_21 (by decide) (fun q4 => ?_) (fun q4 => ?_)
    · have h := ht q4
      refine nt_bipush X dX9_story_36 nt_cb_m2 ?_
      have h := nt_R_some h
      exact nt_iret X dX9_story_38 h
    · have h := hf q4
      refine nt_iload_n X dX9_story_24 rfl 3 rfl ?_
      refine nt_i2l X dX9_story_25 rfl ?_
      refine nt_lconst X dX9_story_26 nt_cl_0 ?_
      refine nt_ldc2 X wd_733 dX9_story_27 ?_
      obtain ⟨r5, er5, h⟩ := nt_R_b1 h
      refine nt_cSi X (As := [.long (Int32.toInt64 x3), .long (0 : Int64), .long (9 : Int64)]) (cMo_in hw er5) wd_732 wd_730 wd_731 wd_16 hd_X9_in ⟨Nat.le_of_ble_eq_true rfl, Nat.le_of_ble_eq_true rfl⟩ ⟨Nat.le_refl 0, Nat.le_refl 0⟩ (Nat.le_of_ble_eq_true rfl) rfl dX9_story_30 ?_
      obtain ⟨ht, hf⟩ := nt_R_if h
      refine nt_if_ne X 39 dX9_story_33 (by decide) (fun q6 => ?_) (fun q6 => ?_)
      · have h := hf q6
        refine nt_aload_n X dX9_story_39 rfl 0 rfl ?_
        refine nt_get X 0 inX9 (nt_lM hw (Nat.le_of_ble_eq_true rfl)) (nt_m0 hw) rfl (j := 11) (by decide) wd_633 (v := .int (g 0 11)) rfl dX9_story_40 ?_
        refine nt_bipush X dX9_story_43 nt_cb_8 ?_
        obtain ⟨ht, hf⟩ := nt_R_if h
        refine nt_icmp_ne X 51 dX9_story_45 (by decide) (fun q7 => ?_) (fun q7 => ?_)
        · have h := hf q7
          refine nt_aload_n X dX9_story_51 rfl 0 rfl ?_
          refine nt_get X 0 inX9 (nt_lM hw (Nat.le_of_ble_eq_true rfl)) (nt_m0 hw) rfl (j := 7) (by decide) wd_629 (v := .ref (nt_a w 4)) rfl dX9_story_52 ?_
          refine nt_aload_n X dX9_story_55 rfl 0 rfl ?_
          refine nt_get X 0 inX9 (nt_lM hw (Nat.le_of_ble_eq_true rfl)) (nt_m0 hw) rfl (j := 11) (by decide) wd_633 (v := .int (g 0 11)) rfl dX9_story_56 ?_
          refine nt_iload_n X dX9_story_59 rfl 1 rfl ?_
          obtain ⟨q8, h⟩ := nt_R_gd h
          refine nt_iast X 4 0 (nt_lM hw (Nat.le_of_ble_eq_true rfl)) (nt_m4 hw) (nt_tM hw) q8 dX9_story_60 ?_
          obtain ⟨g9, eg9, h⟩ := nt_R_lt h
          refine nt_geq eg9 ?_
          refine nt_aload_n X dX9_story_61 rfl 0 rfl ?_
          refine nt_get X 0 inX9 (nt_lM hw (Nat.le_of_ble_eq_true rfl)) (nt_m0 hw) rfl (j := 8) (by decide) wd_630 (v := .ref (nt_a w 5)) rfl dX9_story_62 ?_
          refine nt_aload_n X dX9_story_65 rfl 0 rfl ?_
          refine nt_get X 0 inX9 (nt_lM hw (Nat.le_of_ble_eq_true rfl)) (nt_m0 hw) rfl (j := 11) (by decide) wd_633 (v := .int (g9 0 11)) rfl dX9_story_66 ?_
          refine nt_iload_n X dX9_story_69 rfl 2 rfl ?_
          obtain ⟨q10, h⟩ := nt_R_gd h
          refine nt_iast X 5 0 (nt_lM hw (Nat.le_of_ble_eq_true rfl)) (nt_m5 hw) (nt_tM hw) q10 dX9_story_70 ?_
          obtain ⟨g11, eg11, h⟩ := nt_R_lt h
          refine nt_geq eg11 ?_
          refine nt_aload_n X dX9_story_71 rfl 0 rfl ?_
          refine nt_get X 0 inX9 (nt_lM hw (Nat.le_of_ble_eq_true rfl)) (nt_m0 hw) rfl (j := 9) (by decide) wd_631 (v := .ref (nt_a w 6)) rfl dX9_story_72 ?_
          refine nt_aload_n X dX9_story_75 rfl 0 rfl ?_
          refine nt_get X 0 inX9 (nt_lM hw (Nat.le_of_ble_eq_true rfl)) (nt_m0 hw) rfl (j := 11) (by decide) wd_633 (v := .int (g11 0 11)) rfl dX9_story_76 ?_
          refine nt_iload_n X dX9_story_79 rfl 3 rfl ?_
          obtain ⟨q12, h⟩ := nt_R_gd h
          refine nt_iast X 6 0 (nt_lM hw (Nat.le_of_ble_eq_true rfl)) (nt_m6 hw) (nt_tM hw) q12 dX9_story_80 ?_
          obtain ⟨g13, eg13, h⟩ := nt_R_lt h
          refine nt_geq eg13 ?_
          refine nt_aload_n X dX9_story_81 rfl 0 rfl ?_
          refine nt_get X 0 inX9 (nt_lM hw (Nat.le_of_ble_eq_true rfl)) (nt_m0 hw) rfl (j := 10) (by decide) wd_632 (v := .ref (nt_a w 7)) rfl dX9_story_82 ?_
          refine nt_aload_n X dX9_story_85 rfl 0 rfl ?_
          refine nt_get X 0 inX9 (nt_lM hw (Nat.le_of_ble_eq_true rfl)) (nt_m0 hw) rfl (j := 11) (by decide) wd_633 (v := .int (g13 0 11)) rfl dX9_story_86 ?_
          refine nt_iconst X dX9_story_89 nt_ci_m1 ?_
          obtain ⟨q14, h⟩ := nt_R_gd h
          refine nt_iast X 7 0 (nt_lM hw (Nat.le_of_ble_eq_true rfl)) (nt_m7 hw) (nt_tM hw) q14 dX9_story_90 ?_
          obtain ⟨g15, eg15, h⟩ := nt_R_lt h
          refine nt_geq eg15 ?_
          refine nt_aload_n X dX9_story_91 rfl 0 rfl ?_
          refine nt_dup X dX9_story_92 rfl ?_
          refine nt_get X 0 inX9 (nt_lM hw (Nat.le_of_ble_eq_true rfl)) (nt_m0 hw) rfl (j := 11) (by decide) wd_633 (v := .int (g15 0 11)) rfl dX9_story_93 ?_
          refine nt_iconst X dX9_story_96 nt_ci_1 ?_
          refine nt_iadd X dX9_story_97 ?_
          refine nt_put X 0 inX9 (nt_lM hw (Nat.le_of_ble_eq_true rfl)) (nt_m0 hw) rfl (j := 11) (by decide) wd_633 tyX9 tyX9_ok nmX9 rfl (ty := .int) rfl rfl rfl (fun _ => Nat.le_of_ble_eq_true rfl) (fun _ => rfl) dX9_story_98 ?_
          obtain ⟨g16, eg16, h⟩ := nt_R_lt h
          refine nt_geq eg16 ?_
          refine nt_aload_n X dX9_story_101 rfl 0 rfl ?_
          refine nt_get X 0 inX9 (nt_lM hw (Nat.le_of_ble_eq_true rfl)) (nt_m0 hw) rfl (j := 11) (by decide) wd_633 (v := .int (g16 0 11)) rfl dX9_story_102 ?_
          refine nt_iconst X dX9_story_105 nt_ci_1 ?_
          refine nt_isub X dX9_story_106 ?_
          have h := nt_R_some h
          exact nt_iret X dX9_story_107 h
        · have h := ht q7
          refine nt_bipush X dX9_story_48 nt_cb_m4 ?_
          have h := nt_R_some h
          exact nt_iret X dX9_story_50 h
      · have h := ht q6
        refine nt_bipush X dX9_story_36 nt_cb_m2 ?_
        have h := nt_R_some h
        exact nt_iret X dX9_story_38 h
def jMo_parts_22 (x1 : Int32) (g : nt_T) : Option (nt_T) :=
  nt_gd (nt_in x1 8) <| nt_lt (nt_st g 7 (Int32.toNatClampNeg x1) (-1 : Int32)) fun g4 => some g4
set_option maxRecDepth 100000 in
set_option maxHeartbeats 4000000 in
theorem tjMo_parts_22 {p : Program} {l : Launch} {e : Env} {s : State} {m : MethodId} {args : Array Value} {below : List Frame} {meth : Method} {c : Code} {w : nt_w} {A : Nat → Prop} (hw : nt_isM w) {g2 : nt_T}  (X : nt_X cX9_parts 2 RX9 none w A p s m args meth c) (x1 : Int32) (g : nt_T) (h : nt_R (jMo_parts_22 x1 g) (fun z => z = g2)) : nt_G p l e (nt_rm 1) s m args below meth c w A 0 0 (nt_Qv w A below args s g2) 2 22 [(0, .ref (nt_a w 0)), (1, .int x1)] [] g := by
  unfold jMo_parts_22 at h
  refine nt_aload_n X dX9_parts_22 rfl 0 rfl ?_
  refine nt_get X 0 inX9 (nt_lM hw (Nat.le_of_ble_eq_true rfl)) (nt_m0 hw) rfl (j := 10) (by decide) wd_632 (v := .ref (nt_a w 7)) rfl dX9_parts_23 ?_
  refine nt_iload_n X dX9_parts_26 rfl 1 rfl ?_
  refine nt_iconst X dX9_parts_27 nt_ci_m1 ?_
  obtain ⟨q3, h⟩ := nt_R_gd h
  refine nt_iast X 7 0 (nt_lM hw (Nat.le_of_ble_eq_true rfl)) (nt_m7 hw) (nt_tM hw) q3 dX9_parts_28 ?_
  obtain ⟨g4, eg4, h⟩ := nt_R_lt h
  refine nt_geq eg4 ?_
  have h := nt_R_some h
  exact nt_vret X dX9_parts_29 h
def fMo_parts (x1 : Int32) (g : nt_T) : Option (nt_T) :=
  nt_gd (nt_in x1 8) <| (if (g 7 (Int32.toNatClampNeg x1)) = (-1 : Int32) then
    (jMo_parts_22 x1 g)
  else
    (nt_gd (nt_in x1 8) <| nt_gd (nt_in (g 7 (Int32.toNatClampNeg x1)) 8) <| nt_lt (nt_st g 7 (Int32.toNatClampNeg (g 7 (Int32.toNatClampNeg x1))) (-1 : Int32)) fun g7 => jMo_parts_22 x1 g7))
set_option maxRecDepth 100000 in
set_option maxHeartbeats 4000000 in
theorem cMo_parts {l : Launch} {w : nt_w} (hw : nt_isM w) {x1 : Int32} {g : nt_T} {g2 : nt_T} (hf : fMo_parts x1 g = some g2) : nt_Mv l w yX9_parts cX9_parts 2 none 1 [.ref (nt_a w 0), .int x1] g g2 := by
  refine nt_Mv_of (by decide) (Nat.le_of_ble_eq_true rfl) (fun p e s m args below meth c A X => ?_)
  have X : nt_X cX9_parts 2 RX9 none w A p s m args meth c := X
  have h : nt_R (fMo_parts x1 g) (fun z => z = g2) := ⟨_, hf, rfl⟩
  unfold fMo_parts at h
  show nt_G p l e (nt_rm 1) s m args below meth c w A 0 0 (nt_Qv w A below args s g2) 2 0 [(0, .ref (nt_a w 0)), (1, .int x1)] [] g
  refine nt_aload_n X dX9_parts_0 rfl 0 rfl ?_
  refine nt_get X 0 inX9 (nt_lM hw (Nat.le_of_ble_eq_true rfl)) (nt_m0 hw) rfl (j := 10) (by decide) wd_632 (v := .ref (nt_a w 7)) rfl dX9_parts_1 ?_
  refine nt_iload_n X dX9_parts_4 rfl 1 rfl ?_
  obtain ⟨q1, h⟩ := nt_R_gd h
  refine nt_iald X 7 0 (nt_lM hw (Nat.le_of_ble_eq_true rfl)) (nt_m7 hw) (nt_tM hw) q1 dX9_parts_5 ?_
  refine nt_iconst X dX9_parts_6 nt_ci_m1 ?_
  obtain ⟨ht, hf⟩ := nt_R_if h
  refine nt_icmp_eq X 22 dX9_parts_7 (by decide) (fun q2 => ?_) (fun q2 => ?_)
  · have h := ht q2
    exact tjMo_parts_22 hw X x1 g h
  · have h := hf q2
    refine nt_aload_n X dX9_parts_10 rfl 0 rfl ?_
    refine nt_get X 0 inX9 (nt_lM hw (Nat.le_of_ble_eq_true rfl)) (nt_m0 hw) rfl (j := 10) (by decide) wd_632 (v := .ref (nt_a w 7)) rfl dX9_parts_11 ?_
    refine nt_aload_n X dX9_parts_14 rfl 0 rfl ?_
    refine nt_get X 0 inX9 (nt_lM hw (Nat.le_of_ble_eq_true rfl)) (nt_m0 hw) rfl (j := 10) (by decide) wd_632 (v := .ref (nt_a w 7)) rfl dX9_parts_15 ?_
    refine nt_iload_n X dX9_parts_18 rfl 1 rfl ?_
    obtain ⟨q5, h⟩ := nt_R_gd h
    refine nt_iald X 7 0 (nt_lM hw (Nat.le_of_ble_eq_true rfl)) (nt_m7 hw) (nt_tM hw) q5 dX9_parts_19 ?_
    refine nt_iconst X dX9_parts_20 nt_ci_m1 ?_
    obtain ⟨q6, h⟩ := nt_R_gd h
    refine nt_iast X 7 0 (nt_lM hw (Nat.le_of_ble_eq_true rfl)) (nt_m7 hw) (nt_tM hw) q6 dX9_parts_21 ?_
    obtain ⟨g7, eg7, h⟩ := nt_R_lt h
    refine nt_geq eg7 ?_
    exact tjMo_parts_22 hw X x1 g7 h
def fMo_twin (x1 : Int32) (x2 : Int32) (g : nt_T) : Option (Int32 × nt_T) :=
  nt_b1 (fMo_isStory x1 g) fun r1 => (if r1 = 0 then
    (some ((-2 : Int32), g))
  else
    (nt_b1 (fMo_isStory x2 g) fun r3 => (if r3 = 0 then
    (some ((-2 : Int32), g))
  else
    ((if x1 = x2 then
    (some ((-2 : Int32), g))
  else
    (nt_b1 (fMo_parts x1 g) fun g6 => nt_b1 (fMo_parts x2 g6) fun g7 => nt_gd (nt_in x1 8) <| nt_lt (nt_st g7 7 (Int32.toNatClampNeg x1) x2) fun g9 => nt_gd (nt_in x2 8) <| nt_lt (nt_st g9 7 (Int32.toNatClampNeg x2) x1) fun g11 => some ((1 : Int32), g11)))))))
set_option maxRecDepth 100000 in
set_option maxHeartbeats 4000000 in
theorem cMo_twin {l : Launch} {w : nt_w} (hw : nt_isM w) {x1 : Int32} {x2 : Int32} {g : nt_T} {r : Int32} {g2 : nt_T} (hf : fMo_twin x1 x2 g = some (r, g2)) : nt_Mi l w yX9_twin cX9_twin 3 (some .int) 5 [.ref (nt_a w 0), .int x1, .int x2] g r g2 := by
  refine nt_Mi_of (by decide) (Nat.le_of_ble_eq_true rfl) (fun p e s m args below meth c A X => ?_)
  have X : nt_X cX9_twin 3 RX9 (some .int) w A p s m args meth c := X
  have h : nt_R (fMo_twin x1 x2 g) (fun z => z = (r, g2)) := ⟨_, hf, rfl⟩
  unfold fMo_twin at h
  show nt_G p l e (nt_rm 5) s m args below meth c w A 0 0 (nt_Qi w A below args s r g2) 3 0 [(0, .ref (nt_a w 0)), (1, .int x1), (2, .int x2)] [] g
  refine nt_aload_n X dX9_twin_0 rfl 0 rfl ?_
  refine nt_iload_n X dX9_twin_1 rfl 1 rfl ?_
  obtain ⟨r1, er1, h⟩ := nt_R_b1 h
  refine nt_cVi X (As := [.int x1]) 0 (nt_lM hw (Nat.le_of_ble_eq_true rfl)) (nt_m0 hw) rfl (cMo_isStory hw er1) wd_740 wd_738 wd_739 wd_1076 wd_16 rfl hd_X9_isStory ⟨Nat.le_of_ble_eq_true rfl, Nat.le_of_ble_eq_true rfl⟩ ⟨Nat.le_refl 0, Nat.le_refl 0⟩ (Nat.le_of_ble_eq_true rfl) rfl dX9_twin_2 ?_
  obtain ⟨ht, hf⟩ := nt_R_if h
  refine nt_if_eq X 21 dX9_twin_5 (by decide) (fun q2 => ?_) (fun q2 => ?_)
  · have h := ht q2
    refine nt_bipush X dX9_twin_21 nt_cb_m2 ?_
    have h := nt_R_some h
    exact nt_iret X dX9_twin_23 h
  · have h := hf q2
    refine nt_aload_n X dX9_twin_8 rfl 0 rfl ?_
    refine nt_iload_n X dX9_twin_9 rfl 2 rfl ?_
    obtain ⟨r3, er3, h⟩ := nt_R_b1 h
    refine nt_cVi X (As := [.int x2]) 0 (nt_lM hw (Nat.le_of_ble_eq_true rfl)) (nt_m0 hw) rfl (cMo_isStory hw er3) wd_740 wd_738 wd_739 wd_1076 wd_16 rfl hd_X9_isStory ⟨Nat.le_of_ble_eq_true rfl, Nat.le_of_ble_eq_true rfl⟩ ⟨Nat.le_refl 0, Nat.le_refl 0⟩ (Nat.le_of_ble_eq_true rfl) rfl dX9_twin_10 ?_
    obtain ⟨ht, hf⟩ := nt_R_if h
    refine nt_if_eq X 21 dX9_twin_13 (by decide) (fun q4 => ?_) (fun q4 => ?_)
    · have h := ht q4
      refine nt_bipush X dX9_twin_21 nt_cb_m2 ?_
      have h := nt_R_some h
      exact nt_iret X dX9_twin_23 h
    · have h := hf q4
      refine nt_iload_n X dX9_twin_16 rfl 1 rfl ?_
      refine nt_iload_n X dX9_twin_17 rfl 2 rfl ?_
      obtain ⟨ht, hf⟩ := nt_R_if h
      refine nt_icmp_ne X 24 dX9_twin_18 (by decide) (fun q5 => ?_) (fun q5 => ?_)
      · have h := hf q5
        refine nt_aload_n X dX9_twin_24 rfl 0 rfl ?_
        refine nt_iload_n X dX9_twin_25 rfl 1 rfl ?_
        obtain ⟨g6, eg6, h⟩ := nt_R_b1 h
        refine nt_cVv X (As := [.int x1]) 0 (nt_lM hw (Nat.le_of_ble_eq_true rfl)) (nt_m0 hw) rfl (cMo_parts hw eg6) wd_743 wd_741 wd_742 wd_1077 wd_16 rfl hd_X9_parts ⟨Nat.le_of_ble_eq_true rfl, Nat.le_of_ble_eq_true rfl⟩ ⟨Nat.le_refl 0, Nat.le_refl 0⟩ (Nat.le_of_ble_eq_true rfl) rfl dX9_twin_26 ?_
        refine nt_aload_n X dX9_twin_29 rfl 0 rfl ?_
        refine nt_iload_n X dX9_twin_30 rfl 2 rfl ?_
        obtain ⟨g7, eg7, h⟩ := nt_R_b1 h
        refine nt_cVv X (As := [.int x2]) 0 (nt_lM hw (Nat.le_of_ble_eq_true rfl)) (nt_m0 hw) rfl (cMo_parts hw eg7) wd_743 wd_741 wd_742 wd_1077 wd_16 rfl hd_X9_parts ⟨Nat.le_of_ble_eq_true rfl, Nat.le_of_ble_eq_true rfl⟩ ⟨Nat.le_refl 0, Nat.le_refl 0⟩ (Nat.le_of_ble_eq_true rfl) rfl dX9_twin_31 ?_
        refine nt_aload_n X dX9_twin_34 rfl 0 rfl ?_
        refine nt_get X 0 inX9 (nt_lM hw (Nat.le_of_ble_eq_true rfl)) (nt_m0 hw) rfl (j := 10) (by decide) wd_632 (v := .ref (nt_a w 7)) rfl dX9_twin_35 ?_
        refine nt_iload_n X dX9_twin_38 rfl 1 rfl ?_
        refine nt_iload_n X dX9_twin_39 rfl 2 rfl ?_
        obtain ⟨q8, h⟩ := nt_R_gd h
        refine nt_iast X 7 0 (nt_lM hw (Nat.le_of_ble_eq_true rfl)) (nt_m7 hw) (nt_tM hw) q8 dX9_twin_40 ?_
        obtain ⟨g9, eg9, h⟩ := nt_R_lt h
        refine nt_geq eg9 ?_
        refine nt_aload_n X dX9_twin_41 rfl 0 rfl ?_
        refine nt_get X 0 inX9 (nt_lM hw (Nat.le_of_ble_eq_true rfl)) (nt_m0 hw) rfl (j := 10) (by decide) wd_632 (v := .ref (nt_a w 7)) rfl dX9_twin_42 ?_
        refine nt_iload_n X dX9_twin_45 rfl 2 rfl ?_
        refine nt_iload_n X dX9_twin_46 rfl 1 rfl ?_
        obtain ⟨q10, h⟩ := nt_R_gd h
        refine nt_iast X 7 0 (nt_lM hw (Nat.le_of_ble_eq_true rfl)) (nt_m7 hw) (nt_tM hw) q10 dX9_twin_47 ?_
        obtain ⟨g11, eg11, h⟩ := nt_R_lt h
        refine nt_geq eg11 ?_
        refine nt_iconst X dX9_twin_48 nt_ci_1 ?_
        have h := nt_R_some h
        exact nt_iret X dX9_twin_49 h
      · have h := ht q5
        refine nt_bipush X dX9_twin_21 nt_cb_m2 ?_
        have h := nt_R_some h
        exact nt_iret X dX9_twin_23 h
def fMo_person (x1 : Int32) (x2 : Int32) (g : nt_T) : Option (Int32 × nt_T) :=
  nt_b1 (fMo_in (Int32.toInt64 x1) (0 : Int64) (399 : Int64) g) fun r1 => (if r1 = 0 then
    (some ((-2 : Int32), g))
  else
    (nt_b1 (fMo_in (Int32.toInt64 x2) (0 : Int64) (255 : Int64) g) fun r3 => (if r3 = 0 then
    (some ((-2 : Int32), g))
  else
    ((if (g 0 17) = (8 : Int32) then
    (some ((-4 : Int32), g))
  else
    (nt_gd (decide (¬ (100 : Int32) = 0)) <| nt_gd (nt_in (g 0 17) 9) <| nt_lt (nt_st g 11 (Int32.toNatClampNeg (g 0 17)) (x1 / (100 : Int32))) fun g8 => nt_gd (decide (¬ (100 : Int32) = 0)) <| nt_gd (nt_in (g8 0 17) 9) <| nt_lt (nt_st g8 8 (Int32.toNatClampNeg (g8 0 17)) (x1 - x1 / (100 : Int32) * (100 : Int32))) fun g11 => nt_gd (nt_in (g11 0 17) 9) <| nt_lt (nt_st g11 9 (Int32.toNatClampNeg (g11 0 17)) x2) fun g13 => nt_gd (nt_in (g13 0 17) 9) <| nt_lt (nt_st g13 10 (Int32.toNatClampNeg (g13 0 17)) (0 : Int32)) fun g15 => nt_lt (nt_st g15 0 17 ((g15 0 17) + (1 : Int32))) fun g16 => some (((g16 0 17) - (1 : Int32)), g16)))))))
set_option maxRecDepth 100000 in
set_option maxHeartbeats 4000000 in
theorem cMo_person {l : Launch} {w : nt_w} (hw : nt_isM w) {x1 : Int32} {x2 : Int32} {g : nt_T} {r : Int32} {g2 : nt_T} (hf : fMo_person x1 x2 g = some (r, g2)) : nt_Mi l w yX9_person cX9_person 3 (some .int) 3 [.ref (nt_a w 0), .int x1, .int x2] g r g2 := by
  refine nt_Mi_of (by decide) (Nat.le_of_ble_eq_true rfl) (fun p e s m args below meth c A X => ?_)
  have X : nt_X cX9_person 3 RX9 (some .int) w A p s m args meth c := X
  have h : nt_R (fMo_person x1 x2 g) (fun z => z = (r, g2)) := ⟨_, hf, rfl⟩
  unfold fMo_person at h
  show nt_G p l e (nt_rm 3) s m args below meth c w A 0 0 (nt_Qi w A below args s r g2) 3 0 [(0, .ref (nt_a w 0)), (1, .int x1), (2, .int x2)] [] g
  refine nt_iload_n X dX9_person_0 rfl 1 rfl ?_
  refine nt_i2l X dX9_person_1 rfl ?_
  refine nt_lconst X dX9_person_2 nt_cl_0 ?_
  refine nt_ldc2 X wd_748 dX9_person_3 ?_
  obtain ⟨r1, er1, h⟩ := nt_R_b1 h
  refine nt_cSi X (As := [.long (Int32.toInt64 x1), .long (0 : Int64), .long (399 : Int64)]) (cMo_in hw er1) wd_732 wd_730 wd_731 wd_16 hd_X9_in ⟨Nat.le_of_ble_eq_true rfl, Nat.le_of_ble_eq_true rfl⟩ ⟨Nat.le_refl 0, Nat.le_refl 0⟩ (Nat.le_of_ble_eq_true rfl) rfl dX9_person_6 ?_
  obtain ⟨ht, hf⟩ := nt_R_if h
  refine nt_if_eq X 24 dX9_person_9 (by decide) (fun q2 => ?_) (fun q2 => ?_)
  · have h := ht q2
    refine nt_bipush X dX9_person_24 nt_cb_m2 ?_
    have h := nt_R_some h
    exact nt_iret X dX9_person_26 h
  · have h := hf q2
    refine nt_iload_n X dX9_person_12 rfl 2 rfl ?_
    refine nt_i2l X dX9_person_13 rfl ?_
    refine nt_lconst X dX9_person_14 nt_cl_0 ?_
    refine nt_ldc2 X wd_749 dX9_person_15 ?_
    obtain ⟨r3, er3, h⟩ := nt_R_b1 h
    refine nt_cSi X (As := [.long (Int32.toInt64 x2), .long (0 : Int64), .long (255 : Int64)]) (cMo_in hw er3) wd_732 wd_730 wd_731 wd_16 hd_X9_in ⟨Nat.le_of_ble_eq_true rfl, Nat.le_of_ble_eq_true rfl⟩ ⟨Nat.le_refl 0, Nat.le_refl 0⟩ (Nat.le_of_ble_eq_true rfl) rfl dX9_person_18 ?_
    obtain ⟨ht, hf⟩ := nt_R_if h
    refine nt_if_ne X 27 dX9_person_21 (by decide) (fun q4 => ?_) (fun q4 => ?_)
    · have h := hf q4
      refine nt_aload_n X dX9_person_27 rfl 0 rfl ?_
      refine nt_get X 0 inX9 (nt_lM hw (Nat.le_of_ble_eq_true rfl)) (nt_m0 hw) rfl (j := 17) (by decide) wd_639 (v := .int (g 0 17)) rfl dX9_person_28 ?_
      refine nt_bipush X dX9_person_31 nt_cb_8 ?_
      obtain ⟨ht, hf⟩ := nt_R_if h
      refine nt_icmp_ne X 39 dX9_person_33 (by decide) (fun q5 => ?_) (fun q5 => ?_)
      · have h := hf q5
        refine nt_aload_n X dX9_person_39 rfl 0 rfl ?_
        refine nt_get X 0 inX9 (nt_lM hw (Nat.le_of_ble_eq_true rfl)) (nt_m0 hw) rfl (j := 15) (by decide) wd_637 (v := .ref (nt_a w 11)) rfl dX9_person_40 ?_
        refine nt_aload_n X dX9_person_43 rfl 0 rfl ?_
        refine nt_get X 0 inX9 (nt_lM hw (Nat.le_of_ble_eq_true rfl)) (nt_m0 hw) rfl (j := 17) (by decide) wd_639 (v := .int (g 0 17)) rfl dX9_person_44 ?_
        refine nt_iload_n X dX9_person_47 rfl 1 rfl ?_
        refine nt_bipush X dX9_person_48 nt_cb_100 ?_
        obtain ⟨q6, h⟩ := nt_R_gd h
        refine nt_idiv X dX9_person_50 (of_decide_eq_true q6) ?_
        obtain ⟨q7, h⟩ := nt_R_gd h
        refine nt_iast X 11 0 (nt_lM hw (Nat.le_of_ble_eq_true rfl)) (nt_m11 hw) (nt_tM hw) q7 dX9_person_51 ?_
        obtain ⟨g8, eg8, h⟩ := nt_R_lt h
        refine nt_geq eg8 ?_
        refine nt_aload_n X dX9_person_52 rfl 0 rfl ?_
        refine nt_get X 0 inX9 (nt_lM hw (Nat.le_of_ble_eq_true rfl)) (nt_m0 hw) rfl (j := 12) (by decide) wd_634 (v := .ref (nt_a w 8)) rfl dX9_person_53 ?_
        refine nt_aload_n X dX9_person_56 rfl 0 rfl ?_
        refine nt_get X 0 inX9 (nt_lM hw (Nat.le_of_ble_eq_true rfl)) (nt_m0 hw) rfl (j := 17) (by decide) wd_639 (v := .int (g8 0 17)) rfl dX9_person_57 ?_
        refine nt_iload_n X dX9_person_60 rfl 1 rfl ?_
        refine nt_bipush X dX9_person_61 nt_cb_100 ?_
        obtain ⟨q9, h⟩ := nt_R_gd h
        refine nt_irem X dX9_person_63 (of_decide_eq_true q9) ?_
        obtain ⟨q10, h⟩ := nt_R_gd h
        refine nt_iast X 8 0 (nt_lM hw (Nat.le_of_ble_eq_true rfl)) (nt_m8 hw) (nt_tM hw) q10 dX9_person_64 ?_
        obtain ⟨g11, eg11, h⟩ := nt_R_lt h
        refine nt_geq eg11 ?_
        refine nt_aload_n X dX9_person_65 rfl 0 rfl ?_
        refine nt_get X 0 inX9 (nt_lM hw (Nat.le_of_ble_eq_true rfl)) (nt_m0 hw) rfl (j := 13) (by decide) wd_635 (v := .ref (nt_a w 9)) rfl dX9_person_66 ?_
        refine nt_aload_n X dX9_person_69 rfl 0 rfl ?_
        refine nt_get X 0 inX9 (nt_lM hw (Nat.le_of_ble_eq_true rfl)) (nt_m0 hw) rfl (j := 17) (by decide) wd_639 (v := .int (g11 0 17)) rfl dX9_person_70 ?_
        refine nt_iload_n X dX9_person_73 rfl 2 rfl ?_
        obtain ⟨q12, h⟩ := nt_R_gd h
        refine nt_iast X 9 0 (nt_lM hw (Nat.le_of_ble_eq_true rfl)) (nt_m9 hw) (nt_tM hw) q12 dX9_person_74 ?_
        obtain ⟨g13, eg13, h⟩ := nt_R_lt h
        refine nt_geq eg13 ?_
        refine nt_aload_n X dX9_person_75 rfl 0 rfl ?_
        refine nt_get X 0 inX9 (nt_lM hw (Nat.le_of_ble_eq_true rfl)) (nt_m0 hw) rfl (j := 14) (by decide) wd_636 (v := .ref (nt_a w 10)) rfl dX9_person_76 ?_
        refine nt_aload_n X dX9_person_79 rfl 0 rfl ?_
        refine nt_get X 0 inX9 (nt_lM hw (Nat.le_of_ble_eq_true rfl)) (nt_m0 hw) rfl (j := 17) (by decide) wd_639 (v := .int (g13 0 17)) rfl dX9_person_80 ?_
        refine nt_iconst X dX9_person_83 nt_ci_0 ?_
        obtain ⟨q14, h⟩ := nt_R_gd h
        refine nt_iast X 10 0 (nt_lM hw (Nat.le_of_ble_eq_true rfl)) (nt_m10 hw) (nt_tM hw) q14 dX9_person_84 ?_
        obtain ⟨g15, eg15, h⟩ := nt_R_lt h
        refine nt_geq eg15 ?_
        refine nt_aload_n X dX9_person_85 rfl 0 rfl ?_
        refine nt_dup X dX9_person_86 rfl ?_
        refine nt_get X 0 inX9 (nt_lM hw (Nat.le_of_ble_eq_true rfl)) (nt_m0 hw) rfl (j := 17) (by decide) wd_639 (v := .int (g15 0 17)) rfl dX9_person_87 ?_
        refine nt_iconst X dX9_person_90 nt_ci_1 ?_
        refine nt_iadd X dX9_person_91 ?_
        refine nt_put X 0 inX9 (nt_lM hw (Nat.le_of_ble_eq_true rfl)) (nt_m0 hw) rfl (j := 17) (by decide) wd_639 tyX9 tyX9_ok nmX9 rfl (ty := .int) rfl rfl rfl (fun _ => Nat.le_of_ble_eq_true rfl) (fun _ => rfl) dX9_person_92 ?_
        obtain ⟨g16, eg16, h⟩ := nt_R_lt h
        refine nt_geq eg16 ?_
        refine nt_aload_n X dX9_person_95 rfl 0 rfl ?_
        refine nt_get X 0 inX9 (nt_lM hw (Nat.le_of_ble_eq_true rfl)) (nt_m0 hw) rfl (j := 17) (by decide) wd_639 (v := .int (g16 0 17)) rfl dX9_person_96 ?_
        refine nt_iconst X dX9_person_99 nt_ci_1 ?_
        refine nt_isub X dX9_person_100 ?_
        have h := nt_R_some h
        exact nt_iret X dX9_person_101 h
      · have h := ht q5
        refine nt_bipush X dX9_person_36 nt_cb_m4 ?_
        have h := nt_R_some h
        exact nt_iret X dX9_person_38 h
    · have h := ht q4
      refine nt_bipush X dX9_person_24 nt_cb_m2 ?_
      have h := nt_R_some h
      exact nt_iret X dX9_person_26 h
def jMo_set_89 (x1 : Int32) (x2 : Int32) (x3 : Int32) (s0 : Int32) (g : nt_T) : Option (Int32 × nt_T) :=
  (if x1 = 0 then
    (nt_gd (nt_in x2 9) <| nt_lt (nt_st g 11 (Int32.toNatClampNeg x2) x3) fun g19 => some (s0, g19))
  else
    ((if x1 = (1 : Int32) then
    (nt_gd (nt_in x2 9) <| nt_lt (nt_st g 8 (Int32.toNatClampNeg x2) x3) fun g17 => some (s0, g17))
  else
    (nt_gd (nt_in x2 9) <| nt_lt (nt_st g 9 (Int32.toNatClampNeg x2) x3) fun g15 => some (s0, g15)))))
set_option maxRecDepth 100000 in
set_option maxHeartbeats 4000000 in
theorem tjMo_set_89 {p : Program} {l : Launch} {e : Env} {s : State} {m : MethodId} {args : Array Value} {below : List Frame} {meth : Method} {c : Code} {w : nt_w} {A : Nat → Prop} (hw : nt_isM w) {r : Int32} {g2 : nt_T}  (X : nt_X cX9_set 5 RX9 (some .int) w A p s m args meth c) (x1 : Int32) (x2 : Int32) (x3 : Int32) (s0 : Int32) (g : nt_T) (h : nt_R (jMo_set_89 x1 x2 x3 s0 g) (fun z => z = (r, g2))) : nt_G p l e (nt_rm 5) s m args below meth c w A 0 0 (nt_Qi w A below args s r g2) 5 89 [(0, .ref (nt_a w 0)), (1, .int x1), (2, .int x2), (3, .int x3)] [.int s0] g := by
  unfold jMo_set_89 at h
  refine nt_istore X [(4, .int s0), (0, .ref (nt_a w 0)), (1, .int x1), (2, .int x2), (3, .int x3)] dX9_set_89 (by decide) rfl ?_
  refine nt_iload_n X dX9_set_91 rfl 2 rfl ?_
  obtain ⟨ht, hf⟩ := nt_R_if h
  refine nt_if_ne X 105 dX9_set_92 (by decide) (fun q12 => ?_) (fun q12 => ?_)
  · have h := hf q12
    refine nt_iload_n X dX9_set_105 rfl 2 rfl ?_
    refine nt_iconst X dX9_set_106 nt_ci_1 ?_
    obtain ⟨ht, hf⟩ := nt_R_if h
    refine nt_icmp_ne X 120 dX9_set_107 (by decide) (fun q13 => ?_) (fun q13 => ?_)
    · have h := hf q13
      refine nt_aload_n X dX9_set_120 rfl 1 rfl ?_
      refine nt_get X 0 inX9 (nt_lM hw (Nat.le_of_ble_eq_true rfl)) (nt_m0 hw) rfl (j := 13) (by decide) wd_635 (v := .ref (nt_a w 9)) rfl dX9_set_121 ?_
      refine nt_iload_n X dX9_set_124 rfl 3 rfl ?_
      refine nt_iload_n X dX9_set_125 rfl 4 rfl ?_
      obtain ⟨q14, h⟩ := nt_R_gd h
      refine nt_iast X 9 0 (nt_lM hw (Nat.le_of_ble_eq_true rfl)) (nt_m9 hw) (nt_tM hw) q14 dX9_set_126 ?_
      obtain ⟨g15, eg15, h⟩ := nt_R_lt h
      refine nt_geq eg15 ?_
      refine nt_iload X dX9_set_127 0 rfl ?_
      have h := nt_R_some h
      exact nt_iret X dX9_set_129 h
    · have h := ht q13
      refine nt_aload_n X dX9_set_110 rfl 1 rfl ?_
      refine nt_get X 0 inX9 (nt_lM hw (Nat.le_of_ble_eq_true rfl)) (nt_m0 hw) rfl (j := 12) (by decide) wd_634 (v := .ref (nt_a w 8)) rfl dX9_set_111 ?_
      refine nt_iload_n X dX9_set_114 rfl 3 rfl ?_
      refine nt_iload_n X dX9_set_115 rfl 4 rfl ?_
      obtain ⟨q16, h⟩ := nt_R_gd h
      refine nt_iast X 8 0 (nt_lM hw (Nat.le_of_ble_eq_true rfl)) (nt_m8 hw) (nt_tM hw) q16 dX9_set_116 ?_
      obtain ⟨g17, eg17, h⟩ := nt_R_lt h
      refine nt_geq eg17 ?_
      refine nt_goto X 127 dX9_set_117 (by decide) ?_
      refine nt_iload X dX9_set_127 0 rfl ?_
      have h := nt_R_some h
      exact nt_iret X dX9_set_129 h
  · have h := ht q12
    refine nt_aload_n X dX9_set_95 rfl 1 rfl ?_
    refine nt_get X 0 inX9 (nt_lM hw (Nat.le_of_ble_eq_true rfl)) (nt_m0 hw) rfl (j := 15) (by decide) wd_637 (v := .ref (nt_a w 11)) rfl dX9_set_96 ?_
    refine nt_iload_n X dX9_set_99 rfl 3 rfl ?_
    refine nt_iload_n X dX9_set_100 rfl 4 rfl ?_
    obtain ⟨q18, h⟩ := nt_R_gd h
    refine nt_iast X 11 0 (nt_lM hw (Nat.le_of_ble_eq_true rfl)) (nt_m11 hw) (nt_tM hw) q18 dX9_set_101 ?_
    obtain ⟨g19, eg19, h⟩ := nt_R_lt h
    refine nt_geq eg19 ?_
    refine nt_goto X 127 dX9_set_102 (by decide) ?_
    refine nt_iload X dX9_set_127 0 rfl ?_
    have h := nt_R_some h
    exact nt_iret X dX9_set_129 h
def jMo_set_47 (x1 : Int32) (x2 : Int32) (x3 : Int32) (s0 : Int64) (s1 : Int64) (s2 : Int64) (g : nt_T) : Option (Int32 × nt_T) :=
  nt_b1 (fMo_in s2 s1 s0 g) fun r7 => (if r7 = 0 then
    (some ((-2 : Int32), g))
  else
    ((if x1 = 0 then
    (nt_gd (nt_in x2 9) <| jMo_set_89 x1 x2 x3 (g 11 (Int32.toNatClampNeg x2)) g)
  else
    ((if x1 = (1 : Int32) then
    (nt_gd (nt_in x2 9) <| jMo_set_89 x1 x2 x3 (g 8 (Int32.toNatClampNeg x2)) g)
  else
    (nt_gd (nt_in x2 9) <| jMo_set_89 x1 x2 x3 (g 9 (Int32.toNatClampNeg x2)) g))))))
set_option maxRecDepth 100000 in
set_option maxHeartbeats 4000000 in
theorem tjMo_set_47 {p : Program} {l : Launch} {e : Env} {s : State} {m : MethodId} {args : Array Value} {below : List Frame} {meth : Method} {c : Code} {w : nt_w} {A : Nat → Prop} (hw : nt_isM w) {r : Int32} {g2 : nt_T}  (X : nt_X cX9_set 5 RX9 (some .int) w A p s m args meth c) (x1 : Int32) (x2 : Int32) (x3 : Int32) (s0 : Int64) (s1 : Int64) (s2 : Int64) (g : nt_T) (h : nt_R (jMo_set_47 x1 x2 x3 s0 s1 s2 g) (fun z => z = (r, g2))) : nt_G p l e (nt_rm 5) s m args below meth c w A 0 0 (nt_Qi w A below args s r g2) 5 47 [(0, .ref (nt_a w 0)), (1, .int x1), (2, .int x2), (3, .int x3)] [.long s0, .long s1, .long s2] g := by
  unfold jMo_set_47 at h
  obtain ⟨r7, er7, h⟩ := nt_R_b1 h
  refine nt_cSi X (As := [.long s2, .long s1, .long s0]) (cMo_in hw er7) wd_732 wd_730 wd_731 wd_16 hd_X9_in ⟨Nat.le_of_ble_eq_true rfl, Nat.le_of_ble_eq_true rfl⟩ ⟨Nat.le_refl 0, Nat.le_refl 0⟩ (Nat.le_of_ble_eq_true rfl) rfl dX9_set_47 ?_
  obtain ⟨ht, hf⟩ := nt_R_if h
  refine nt_if_ne X 56 dX9_set_50 (by decide) (fun q8 => ?_) (fun q8 => ?_)
  · have h := hf q8
    refine nt_iload_n X dX9_set_56 rfl 1 rfl ?_
    obtain ⟨ht, hf⟩ := nt_R_if h
    refine nt_if_ne X 69 dX9_set_57 (by decide) (fun q9 => ?_) (fun q9 => ?_)
    · have h := hf q9
      refine nt_iload_n X dX9_set_69 rfl 1 rfl ?_
      refine nt_iconst X dX9_set_70 nt_ci_1 ?_
      obtain ⟨ht, hf⟩ := nt_R_if h
      refine nt_icmp_ne X 83 dX9_set_71 (by decide) (fun q10 => ?_) (fun q10 => ?_)
      · have h := hf q10
        refine nt_aload_n X dX9_set_83 rfl 0 rfl ?_
        refine nt_get X 0 inX9 (nt_lM hw (Nat.le_of_ble_eq_true rfl)) (nt_m0 hw) rfl (j := 13) (by decide) wd_635 (v := .ref (nt_a w 9)) rfl dX9_set_84 ?_
        refine nt_iload_n X dX9_set_87 rfl 2 rfl ?_
        obtain ⟨q11, h⟩ := nt_R_gd h
        refine nt_iald X 9 0 (nt_lM hw (Nat.le_of_ble_eq_true rfl)) (nt_m9 hw) (nt_tM hw) q11 dX9_set_88 ?_
        exact tjMo_set_89 hw X x1 x2 x3 (g 9 (Int32.toNatClampNeg x2)) g h
      · have h := ht q10
        refine nt_aload_n X dX9_set_74 rfl 0 rfl ?_
        refine nt_get X 0 inX9 (nt_lM hw (Nat.le_of_ble_eq_true rfl)) (nt_m0 hw) rfl (j := 12) (by decide) wd_634 (v := .ref (nt_a w 8)) rfl dX9_set_75 ?_
        refine nt_iload_n X dX9_set_78 rfl 2 rfl ?_
        obtain ⟨q20, h⟩ := nt_R_gd h
        refine nt_iald X 8 0 (nt_lM hw (Nat.le_of_ble_eq_true rfl)) (nt_m8 hw) (nt_tM hw) q20 dX9_set_79 ?_
        refine nt_goto X 89 dX9_set_80 (by decide) ?_
        exact tjMo_set_89 hw X x1 x2 x3 (g 8 (Int32.toNatClampNeg x2)) g h
    · have h := ht q9
      refine nt_aload_n X dX9_set_60 rfl 0 rfl ?_
      refine nt_get X 0 inX9 (nt_lM hw (Nat.le_of_ble_eq_true rfl)) (nt_m0 hw) rfl (j := 15) (by decide) wd_637 (v := .ref (nt_a w 11)) rfl dX9_set_61 ?_
      refine nt_iload_n X dX9_set_64 rfl 2 rfl ?_
      obtain ⟨q21, h⟩ := nt_R_gd h
      refine nt_iald X 11 0 (nt_lM hw (Nat.le_of_ble_eq_true rfl)) (nt_m11 hw) (nt_tM hw) q21 dX9_set_65 ?_
      refine nt_goto X 89 dX9_set_66 (by decide) ?_
      exact tjMo_set_89 hw X x1 x2 x3 (g 11 (Int32.toNatClampNeg x2)) g h
  · have h := ht q8
    refine nt_bipush X dX9_set_53 nt_cb_m2 ?_
    have h := nt_R_some h
    exact nt_iret X dX9_set_55 h
def fMo_set (x1 : Int32) (x2 : Int32) (x3 : Int32) (g : nt_T) : Option (Int32 × nt_T) :=
  nt_b1 (fMo_in (Int32.toInt64 x1) (0 : Int64) (2 : Int64) g) fun r1 => (if r1 = 0 then
    (some ((-2 : Int32), g))
  else
    (nt_b1 (fMo_isPerson x2 g) fun r3 => (if r3 = 0 then
    (some ((-2 : Int32), g))
  else
    ((if x1 = 0 then
    (jMo_set_47 x1 x2 x3 (3 : Int64) (0 : Int64) (Int32.toInt64 x3) g)
  else
    ((if x1 = (1 : Int32) then
    (jMo_set_47 x1 x2 x3 (99 : Int64) (0 : Int64) (Int32.toInt64 x3) g)
  else
    (jMo_set_47 x1 x2 x3 (255 : Int64) (0 : Int64) (Int32.toInt64 x3) g))))))))
set_option maxRecDepth 100000 in
set_option maxHeartbeats 4000000 in
theorem cMo_set {l : Launch} {w : nt_w} (hw : nt_isM w) {x1 : Int32} {x2 : Int32} {x3 : Int32} {g : nt_T} {r : Int32} {g2 : nt_T} (hf : fMo_set x1 x2 x3 g = some (r, g2)) : nt_Mi l w yX9_set cX9_set 5 (some .int) 5 [.ref (nt_a w 0), .int x1, .int x2, .int x3] g r g2 := by
  refine nt_Mi_of (by decide) (Nat.le_of_ble_eq_true rfl) (fun p e s m args below meth c A X => ?_)
  have X : nt_X cX9_set 5 RX9 (some .int) w A p s m args meth c := X
  have h : nt_R (fMo_set x1 x2 x3 g) (fun z => z = (r, g2)) := ⟨_, hf, rfl⟩
  unfold fMo_set at h
  show nt_G p l e (nt_rm 5) s m args below meth c w A 0 0 (nt_Qi w A below args s r g2) 5 0 [(0, .ref (nt_a w 0)), (1, .int x1), (2, .int x2), (3, .int x3)] [] g
  refine nt_iload_n X dX9_set_0 rfl 1 rfl ?_
  refine nt_i2l X dX9_set_1 rfl ?_
  refine nt_lconst X dX9_set_2 nt_cl_0 ?_
  refine nt_ldc2 X wd_754 dX9_set_3 ?_
  obtain ⟨r1, er1, h⟩ := nt_R_b1 h
  refine nt_cSi X (As := [.long (Int32.toInt64 x1), .long (0 : Int64), .long (2 : Int64)]) (cMo_in hw er1) wd_732 wd_730 wd_731 wd_16 hd_X9_in ⟨Nat.le_of_ble_eq_true rfl, Nat.le_of_ble_eq_true rfl⟩ ⟨Nat.le_refl 0, Nat.le_refl 0⟩ (Nat.le_of_ble_eq_true rfl) rfl dX9_set_6 ?_
  obtain ⟨ht, hf⟩ := nt_R_if h
  refine nt_if_eq X 53 dX9_set_9 (by decide) (fun q2 => ?_) (fun q2 => ?_)
  · have h := ht q2
    refine nt_bipush X dX9_set_53 nt_cb_m2 ?_
    have h := nt_R_some h
    exact nt_iret X dX9_set_55 h
  · have h := hf q2
    refine nt_aload_n X dX9_set_12 rfl 0 rfl ?_
    refine nt_iload_n X dX9_set_13 rfl 2 rfl ?_
    obtain ⟨r3, er3, h⟩ := nt_R_b1 h
    refine nt_cVi X (As := [.int x2]) 0 (nt_lM hw (Nat.le_of_ble_eq_true rfl)) (nt_m0 hw) rfl (cMo_isPerson hw er3) wd_757 wd_755 wd_756 wd_1078 wd_16 rfl hd_X9_isPerson ⟨Nat.le_of_ble_eq_true rfl, Nat.le_of_ble_eq_true rfl⟩ ⟨Nat.le_refl 0, Nat.le_refl 0⟩ (Nat.le_of_ble_eq_true rfl) rfl dX9_set_14 ?_
    obtain ⟨ht, hf⟩ := nt_R_if h
    refine nt_if_eq X 53 dX9_set_17 (by decide) (fun q4 => ?_) (fun q4 => ?_)
    · have h := ht q4
      refine nt_bipush X dX9_set_53 nt_cb_m2 ?_
      have h := nt_R_some h
      exact nt_iret X dX9_set_55 h
    · have h := hf q4
      refine nt_iload_n X dX9_set_20 rfl 3 rfl ?_
      refine nt_i2l X dX9_set_21 rfl ?_
      refine nt_lconst X dX9_set_22 nt_cl_0 ?_
      refine nt_iload_n X dX9_set_23 rfl 1 rfl ?_
      obtain ⟨ht, hf⟩ := nt_R_if h
      refine nt_if_ne X 33 dX9_set_24 (by decide) (fun q5 => ?_) (fun q5 => ?_)
      · have h := hf q5
        refine nt_iload_n X dX9_set_33 rfl 1 rfl ?_
        refine nt_iconst X dX9_set_34 nt_ci_1 ?_
        obtain ⟨ht, hf⟩ := nt_R_if h
        refine nt_icmp_ne X 44 dX9_set_35 (by decide) (fun q6 => ?_) (fun q6 => ?_)
        · have h := hf q6
          refine nt_ldc2 X wd_749 dX9_set_44 ?_
          exact tjMo_set_47 hw X x1 x2 x3 (255 : Int64) (0 : Int64) (Int32.toInt64 x3) g h
        · have h := ht q6
          refine nt_ldc2 X wd_759 dX9_set_38 ?_
          refine nt_goto X 47 dX9_set_41 (by decide) ?_
          exact tjMo_set_47 hw X x1 x2 x3 (99 : Int64) (0 : Int64) (Int32.toInt64 x3) g h
      · have h := ht q5
        refine nt_ldc2 X wd_758 dX9_set_27 ?_
        refine nt_goto X 47 dX9_set_30 (by decide) ?_
        exact tjMo_set_47 hw X x1 x2 x3 (3 : Int64) (0 : Int64) (Int32.toInt64 x3) g h
def fMo_hears (x1 : Int32) (x2 : Int32) (x3 : Int32) (g : nt_T) : Option (Int32 × nt_T) :=
  nt_b1 (fMo_isPerson x1 g) fun r1 => (if r1 = 0 then
    (some ((-2 : Int32), g))
  else
    (nt_b1 (fMo_isStory x2 g) fun r3 => (if r3 = 0 then
    (some ((-2 : Int32), g))
  else
    (nt_b1 (fMo_in (Int32.toInt64 x3) (0 : Int64) (1 : Int64) g) fun r5 => (if r5 = 0 then
    (some ((-2 : Int32), g))
  else
    (nt_gd (nt_in x1 9) <| nt_lt (((g 10 (Int32.toNatClampNeg x1)) >>> (x2 &&& 31)) &&& (1 : Int32)) fun v8 => nt_gd (nt_in x1 9) <| nt_gd (nt_in x1 9) <| nt_lt (nt_st g 10 (Int32.toNatClampNeg x1) (((g 10 (Int32.toNatClampNeg x1)) &&& (((1 : Int32) <<< (x2 &&& 31)) ^^^ (-1 : Int32))) ||| (x3 <<< (x2 &&& 31)))) fun g11 => nt_gd (nt_in (((8 : Int32) * x1) + x2) 72) <| nt_lt (nt_st g11 12 (Int32.toNatClampNeg (((8 : Int32) * x1) + x2)) (g11 0 18)) fun g13 => some (v8, g13)))))))
set_option maxRecDepth 100000 in
set_option maxHeartbeats 4000000 in
theorem cMo_hears {l : Launch} {w : nt_w} (hw : nt_isM w) {x1 : Int32} {x2 : Int32} {x3 : Int32} {g : nt_T} {r : Int32} {g2 : nt_T} (hf : fMo_hears x1 x2 x3 g = some (r, g2)) : nt_Mi l w yX9_hears cX9_hears 5 (some .int) 5 [.ref (nt_a w 0), .int x1, .int x2, .int x3] g r g2 := by
  refine nt_Mi_of (by decide) (Nat.le_of_ble_eq_true rfl) (fun p e s m args below meth c A X => ?_)
  have X : nt_X cX9_hears 5 RX9 (some .int) w A p s m args meth c := X
  have h : nt_R (fMo_hears x1 x2 x3 g) (fun z => z = (r, g2)) := ⟨_, hf, rfl⟩
  unfold fMo_hears at h
  show nt_G p l e (nt_rm 5) s m args below meth c w A 0 0 (nt_Qi w A below args s r g2) 5 0 [(0, .ref (nt_a w 0)), (1, .int x1), (2, .int x2), (3, .int x3)] [] g
  refine nt_aload_n X dX9_hears_0 rfl 0 rfl ?_
  refine nt_iload_n X dX9_hears_1 rfl 1 rfl ?_
  obtain ⟨r1, er1, h⟩ := nt_R_b1 h
  refine nt_cVi X (As := [.int x1]) 0 (nt_lM hw (Nat.le_of_ble_eq_true rfl)) (nt_m0 hw) rfl (cMo_isPerson hw er1) wd_757 wd_755 wd_756 wd_1078 wd_16 rfl hd_X9_isPerson ⟨Nat.le_of_ble_eq_true rfl, Nat.le_of_ble_eq_true rfl⟩ ⟨Nat.le_refl 0, Nat.le_refl 0⟩ (Nat.le_of_ble_eq_true rfl) rfl dX9_hears_2 ?_
  obtain ⟨ht, hf⟩ := nt_R_if h
  refine nt_if_eq X 26 dX9_hears_5 (by decide) (fun q2 => ?_) (fun q2 => ?_)
  · have h := ht q2
    refine nt_bipush X dX9_hears_26 nt_cb_m2 ?_
    have h := nt_R_some h
    exact nt_iret X dX9_hears_28 h
  · have h := hf q2
    refine nt_aload_n X dX9_hears_8 rfl 0 rfl ?_
    refine nt_iload_n X dX9_hears_9 rfl 2 rfl ?_
    obtain ⟨r3, er3, h⟩ := nt_R_b1 h
    refine nt_cVi X (As := [.int x2]) 0 (nt_lM hw (Nat.le_of_ble_eq_true rfl)) (nt_m0 hw) rfl (cMo_isStory hw er3) wd_740 wd_738 wd_739 wd_1076 wd_16 rfl hd_X9_isStory ⟨Nat.le_of_ble_eq_true rfl, Nat.le_of_ble_eq_true rfl⟩ ⟨Nat.le_refl 0, Nat.le_refl 0⟩ (Nat.le_of_ble_eq_true rfl) rfl dX9_hears_10 ?_
    obtain ⟨ht, hf⟩ := nt_R_if h
    refine nt_if_eq X 26 dX9_hears_13 (by decide) (fun q4 => ?_) (fun q4 => ?_)
    · have h := ht q4
      refine nt_bipush X dX9_hears_26 nt_cb_m2 ?_
      have h := nt_R_some h
      exact nt_iret X dX9_hears_28 h
    · have h := hf q4
      refine nt_iload_n X dX9_hears_16 rfl 3 rfl ?_
      refine nt_i2l X dX9_hears_17 rfl ?_
      refine nt_lconst X dX9_hears_18 nt_cl_0 ?_
      refine nt_lconst X dX9_hears_19 nt_cl_1 ?_
      obtain ⟨r5, er5, h⟩ := nt_R_b1 h
      refine nt_cSi X (As := [.long (Int32.toInt64 x3), .long (0 : Int64), .long (1 : Int64)]) (cMo_in hw er5) wd_732 wd_730 wd_731 wd_16 hd_X9_in ⟨Nat.le_of_ble_eq_true rfl, Nat.le_of_ble_eq_true rfl⟩ ⟨Nat.le_refl 0, Nat.le_refl 0⟩ (Nat.le_of_ble_eq_true rfl) rfl dX9_hears_20 ?_
      obtain ⟨ht, hf⟩ := nt_R_if h
      refine nt_if_ne X 29 dX9_hears_23 (by decide) (fun q6 => ?_) (fun q6 => ?_)
      · have h := hf q6
        refine nt_aload_n X dX9_hears_29 rfl 0 rfl ?_
        refine nt_get X 0 inX9 (nt_lM hw (Nat.le_of_ble_eq_true rfl)) (nt_m0 hw) rfl (j := 14) (by decide) wd_636 (v := .ref (nt_a w 10)) rfl dX9_hears_30 ?_
        refine nt_iload_n X dX9_hears_33 rfl 1 rfl ?_
        obtain ⟨q7, h⟩ := nt_R_gd h
        refine nt_iald X 10 0 (nt_lM hw (Nat.le_of_ble_eq_true rfl)) (nt_m10 hw) (nt_tM hw) q7 dX9_hears_34 ?_
        refine nt_iload_n X dX9_hears_35 rfl 2 rfl ?_
        refine nt_ishr X dX9_hears_36 ?_
        refine nt_iconst X dX9_hears_37 nt_ci_1 ?_
        refine nt_iand X dX9_hears_38 ?_
        obtain ⟨v8, ev8, h⟩ := nt_R_lt h
        refine nt_topi ev8 ?_
        refine nt_istore X [(4, .int v8), (0, .ref (nt_a w 0)), (1, .int x1), (2, .int x2), (3, .int x3)] dX9_hears_39 (by decide) rfl ?_
        refine nt_aload_n X dX9_hears_41 rfl 1 rfl ?_
        refine nt_get X 0 inX9 (nt_lM hw (Nat.le_of_ble_eq_true rfl)) (nt_m0 hw) rfl (j := 14) (by decide) wd_636 (v := .ref (nt_a w 10)) rfl dX9_hears_42 ?_
        refine nt_iload_n X dX9_hears_45 rfl 2 rfl ?_
        refine nt_aload_n X dX9_hears_46 rfl 1 rfl ?_
        refine nt_get X 0 inX9 (nt_lM hw (Nat.le_of_ble_eq_true rfl)) (nt_m0 hw) rfl (j := 14) (by decide) wd_636 (v := .ref (nt_a w 10)) rfl dX9_hears_47 ?_
        refine nt_iload_n X dX9_hears_50 rfl 2 rfl ?_
        obtain ⟨q9, h⟩ := nt_R_gd h
        refine nt_iald X 10 0 (nt_lM hw (Nat.le_of_ble_eq_true rfl)) (nt_m10 hw) (nt_tM hw) q9 dX9_hears_51 ?_
        refine nt_iconst X dX9_hears_52 nt_ci_1 ?_
        refine nt_iload_n X dX9_hears_53 rfl 3 rfl ?_
        refine nt_ishl X dX9_hears_54 ?_
        refine nt_iconst X dX9_hears_55 nt_ci_m1 ?_
        refine nt_ixor X dX9_hears_56 ?_
        refine nt_iand X dX9_hears_57 ?_
        refine nt_iload_n X dX9_hears_58 rfl 4 rfl ?_
        refine nt_iload_n X dX9_hears_59 rfl 3 rfl ?_
        refine nt_ishl X dX9_hears_60 ?_
        refine nt_ior X dX9_hears_61 ?_
        obtain ⟨q10, h⟩ := nt_R_gd h
        refine nt_iast X 10 0 (nt_lM hw (Nat.le_of_ble_eq_true rfl)) (nt_m10 hw) (nt_tM hw) q10 dX9_hears_62 ?_
        obtain ⟨g11, eg11, h⟩ := nt_R_lt h
        refine nt_geq eg11 ?_
        refine nt_aload_n X dX9_hears_63 rfl 1 rfl ?_
        refine nt_get X 0 inX9 (nt_lM hw (Nat.le_of_ble_eq_true rfl)) (nt_m0 hw) rfl (j := 16) (by decide) wd_638 (v := .ref (nt_a w 12)) rfl dX9_hears_64 ?_
        refine nt_bipush X dX9_hears_67 nt_cb_8 ?_
        refine nt_iload_n X dX9_hears_69 rfl 2 rfl ?_
        refine nt_imul X dX9_hears_70 ?_
        refine nt_iload_n X dX9_hears_71 rfl 3 rfl ?_
        refine nt_iadd X dX9_hears_72 ?_
        refine nt_aload_n X dX9_hears_73 rfl 1 rfl ?_
        refine nt_get X 0 inX9 (nt_lM hw (Nat.le_of_ble_eq_true rfl)) (nt_m0 hw) rfl (j := 18) (by decide) wd_640 (v := .int (g11 0 18)) rfl dX9_hears_74 ?_
        obtain ⟨q12, h⟩ := nt_R_gd h
        refine nt_iast X 12 0 (nt_lM hw (Nat.le_of_ble_eq_true rfl)) (nt_m12 hw) (nt_tM hw) q12 dX9_hears_77 ?_
        obtain ⟨g13, eg13, h⟩ := nt_R_lt h
        refine nt_geq eg13 ?_
        refine nt_iload X dX9_hears_78 0 rfl ?_
        have h := nt_R_some h
        exact nt_iret X dX9_hears_80 h
      · have h := ht q6
        refine nt_bipush X dX9_hears_26 nt_cb_m2 ?_
        have h := nt_R_some h
        exact nt_iret X dX9_hears_28 h
def jMo_counts_47 (x1 : Int32) (x3 : Int32) (s0 : Int32) (g : nt_T) : Option (Int32) :=
  (if x3 = (4 : Int32) then
    (nt_gd (nt_in x1 8) <| some (s0 + (g 6 (Int32.toNatClampNeg x1))))
  else
    (some (s0 + (0 : Int32))))
set_option maxRecDepth 100000 in
set_option maxHeartbeats 4000000 in
theorem tjMo_counts_47 {p : Program} {l : Launch} {e : Env} {s : State} {m : MethodId} {args : Array Value} {below : List Frame} {meth : Method} {c : Code} {w : nt_w} {A : Nat → Prop} (hw : nt_isM w) {r : Int32} {g0 : nt_T}  (X : nt_X cX9_counts 5 RX9 (some .int) w A p s m args meth c) (x1 : Int32) (x3 : Int32) (s0 : Int32) (g : nt_T) (hg : g = g0) (h : nt_R (jMo_counts_47 x1 x3 s0 g) (fun z => z = r)) : nt_G p l e (nt_rm 1) s m args below meth c w A 0 0 (nt_Qi w A below args s r g0) 5 47 [(0, .ref (nt_a w 0)), (1, .int x1), (3, .int x3)] [.int s0] g := by
  unfold jMo_counts_47 at h
  refine nt_iload_n X dX9_counts_47 rfl 2 rfl ?_
  refine nt_iconst X dX9_counts_48 nt_ci_4 ?_
  obtain ⟨ht, hf⟩ := nt_R_if h
  refine nt_icmp_ne X 61 dX9_counts_49 (by decide) (fun q8 => ?_) (fun q8 => ?_)
  · have h := hf q8
    refine nt_iconst X dX9_counts_61 nt_ci_0 ?_
    refine nt_iadd X dX9_counts_62 ?_
    have h := nt_R_some h
    exact nt_iret X dX9_counts_63 (nt_pe h hg)
  · have h := ht q8
    refine nt_aload_n X dX9_counts_52 rfl 0 rfl ?_
    refine nt_get X 0 inX9 (nt_lM hw (Nat.le_of_ble_eq_true rfl)) (nt_m0 hw) rfl (j := 9) (by decide) wd_631 (v := .ref (nt_a w 6)) rfl dX9_counts_53 ?_
    refine nt_iload_n X dX9_counts_56 rfl 1 rfl ?_
    obtain ⟨q9, h⟩ := nt_R_gd h
    refine nt_iald X 6 0 (nt_lM hw (Nat.le_of_ble_eq_true rfl)) (nt_m6 hw) (nt_tM hw) q9 dX9_counts_57 ?_
    refine nt_goto X 62 dX9_counts_58 (by decide) ?_
    refine nt_iadd X dX9_counts_62 ?_
    have h := nt_R_some h
    exact nt_iret X dX9_counts_63 (nt_pe h hg)
def jMo_counts_32 (x1 : Int32) (x2 : Int32) (x3 : Int32) (x4 : Int32) (g : nt_T) : Option (Int32) :=
  (if (14 : Int32) ≤ x2 then
    (jMo_counts_47 x1 x3 x4 g)
  else
    (jMo_counts_47 x1 x3 ((2 : Int32) * x4) g))
set_option maxRecDepth 100000 in
set_option maxHeartbeats 4000000 in
theorem tjMo_counts_32 {p : Program} {l : Launch} {e : Env} {s : State} {m : MethodId} {args : Array Value} {below : List Frame} {meth : Method} {c : Code} {w : nt_w} {A : Nat → Prop} (hw : nt_isM w) {r : Int32} {g0 : nt_T}  (X : nt_X cX9_counts 5 RX9 (some .int) w A p s m args meth c) (x1 : Int32) (x2 : Int32) (x3 : Int32) (x4 : Int32) (g : nt_T) (hg : g = g0) (h : nt_R (jMo_counts_32 x1 x2 x3 x4 g) (fun z => z = r)) : nt_G p l e (nt_rm 1) s m args below meth c w A 0 0 (nt_Qi w A below args s r g0) 5 32 [(0, .ref (nt_a w 0)), (1, .int x1), (2, .int x2), (3, .int x3), (4, .int x4)] [] g := by
  unfold jMo_counts_32 at h
  refine nt_iload_n X dX9_counts_32 rfl 2 rfl ?_
  refine nt_bipush X dX9_counts_33 nt_cb_14 ?_
  obtain ⟨ht, hf⟩ := nt_R_if h
  refine nt_icmp_ge X 45 dX9_counts_35 (by decide) (fun q7 => ?_) (fun q7 => ?_)
  · have h := ht q7
    refine nt_iload X dX9_counts_45 4 rfl ?_
    refine nt_sub [0, 1, 3] rfl ?_
    exact tjMo_counts_47 hw X x1 x3 x4 g hg h
  · have h := hf q7
    refine nt_iconst X dX9_counts_38 nt_ci_2 ?_
    refine nt_iload X dX9_counts_39 4 rfl ?_
    refine nt_imul X dX9_counts_41 ?_
    refine nt_goto X 47 dX9_counts_42 (by decide) ?_
    refine nt_sub [0, 1, 3] rfl ?_
    exact tjMo_counts_47 hw X x1 x3 ((2 : Int32) * x4) g hg h
def fMo_counts (x1 : Int32) (x2 : Int32) (g : nt_T) : Option (Int32) :=
  nt_gd (nt_in x1 8) <| nt_lt (g 4 (Int32.toNatClampNeg x1)) fun v2 => nt_gd (nt_in x1 8) <| nt_lt (g 5 (Int32.toNatClampNeg x1)) fun v4 => (if v2 = 0 then
    (some v4)
  else
    ((if v2 = (2 : Int32) then
    (jMo_counts_32 x1 x2 v2 v4 g)
  else
    ((if v2 = (4 : Int32) then
    (jMo_counts_32 x1 x2 v2 v4 g)
  else
    ((if v2 = (3 : Int32) then
    (nt_gd (decide (¬ (2 : Int32) = 0)) <| some ((v4 + (2 : Int32)) / (2 : Int32)))
  else
    ((if v2 = (5 : Int32) then
    ((if x2 < (60 : Int32) then
    (some (v4 + (2 : Int32)))
  else
    (some (v4 + (7 : Int32)))))
  else
    (some (v4 + (2 : Int32))))))))))))
set_option maxRecDepth 100000 in
set_option maxHeartbeats 4000000 in
theorem cMo_counts {l : Launch} {w : nt_w} (hw : nt_isM w) {x1 : Int32} {x2 : Int32} {g : nt_T} {r : Int32} (hf : fMo_counts x1 x2 g = some r) : nt_Mi l w yX9_counts cX9_counts 5 (some .int) 1 [.ref (nt_a w 0), .int x1, .int x2] g r g := by
  refine nt_Mi_of (by decide) (Nat.le_of_ble_eq_true rfl) (fun p e s m args below meth c A X => ?_)
  have X : nt_X cX9_counts 5 RX9 (some .int) w A p s m args meth c := X
  have hg : g = g := rfl
  have h : nt_R (fMo_counts x1 x2 g) (fun z => z = r) := ⟨_, hf, rfl⟩
  unfold fMo_counts at h
  show nt_G p l e (nt_rm 1) s m args below meth c w A 0 0 (nt_Qi w A below args s r g) 5 0 [(0, .ref (nt_a w 0)), (1, .int x1), (2, .int x2)] [] g
  refine nt_aload_n X dX9_counts_0 rfl 0 rfl ?_
  refine nt_get X 0 inX9 (nt_lM hw (Nat.le_of_ble_eq_true rfl)) (nt_m0 hw) rfl (j := 7) (by decide) wd_629 (v := .ref (nt_a w 4)) rfl dX9_counts_1 ?_
  refine nt_iload_n X dX9_counts_4 rfl 1 rfl ?_
  obtain ⟨q1, h⟩ := nt_R_gd h
  refine nt_iald X 4 0 (nt_lM hw (Nat.le_of_ble_eq_true rfl)) (nt_m4 hw) (nt_tM hw) q1 dX9_counts_5 ?_
  obtain ⟨v2, ev2, h⟩ := nt_R_lt h
  refine nt_topi ev2 ?_
  refine nt_istore_n X [(3, .int v2), (0, .ref (nt_a w 0)), (1, .int x1), (2, .int x2)] dX9_counts_6 rfl (by decide) rfl ?_
  refine nt_aload_n X dX9_counts_7 rfl 1 rfl ?_
  refine nt_get X 0 inX9 (nt_lM hw (Nat.le_of_ble_eq_true rfl)) (nt_m0 hw) rfl (j := 8) (by decide) wd_630 (v := .ref (nt_a w 5)) rfl dX9_counts_8 ?_
  refine nt_iload_n X dX9_counts_11 rfl 2 rfl ?_
  obtain ⟨q3, h⟩ := nt_R_gd h
  refine nt_iald X 5 0 (nt_lM hw (Nat.le_of_ble_eq_true rfl)) (nt_m5 hw) (nt_tM hw) q3 dX9_counts_12 ?_
  obtain ⟨v4, ev4, h⟩ := nt_R_lt h
  refine nt_topi ev4 ?_
  refine nt_istore X [(4, .int v4), (3, .int v2), (0, .ref (nt_a w 0)), (1, .int x1), (2, .int x2)] dX9_counts_13 (by decide) rfl ?_
  refine nt_iload_n X dX9_counts_15 rfl 1 rfl ?_
  obtain ⟨ht, hf⟩ := nt_R_if h
  refine nt_if_ne X 22 dX9_counts_16 (by decide) (fun q5 => ?_) (fun q5 => ?_)
  · have h := hf q5
    refine nt_iload_n X dX9_counts_22 rfl 1 rfl ?_
    refine nt_iconst X dX9_counts_23 nt_ci_2 ?_
    obtain ⟨ht, hf⟩ := nt_R_if h
    refine nt_icmp_eq X 32 dX9_counts_24 (by decide) (fun q6 => ?_) (fun q6 => ?_)
    · have h := ht q6
      refine nt_sub [2, 3, 4, 1, 0] rfl ?_
      exact tjMo_counts_32 hw X x1 x2 v2 v4 g hg h
    · have h := hf q6
      refine nt_iload_n X dX9_counts_27 rfl 1 rfl ?_
      refine nt_iconst X dX9_counts_28 nt_ci_4 ?_
      obtain ⟨ht, hf⟩ := nt_R_if h
      refine nt_icmp_ne X 64 dX9_counts_29 (by decide) (fun q10 => ?_) (fun q10 => ?_)
      · have h := hf q10
        refine nt_iload_n X dX9_counts_64 rfl 1 rfl ?_
        refine nt_iconst X dX9_counts_65 nt_ci_3 ?_
        obtain ⟨ht, hf⟩ := nt_R_if h
        refine nt_icmp_ne X 78 dX9_counts_66 (by decide) (fun q11 => ?_) (fun q11 => ?_)
        · have h := hf q11
          refine nt_iload_n X dX9_counts_78 rfl 1 rfl ?_
          refine nt_iconst X dX9_counts_79 nt_ci_5 ?_
          obtain ⟨ht, hf⟩ := nt_R_if h
          refine nt_icmp_ne X 97 dX9_counts_80 (by decide) (fun q12 => ?_) (fun q12 => ?_)
          · have h := hf q12
            refine nt_iload X dX9_counts_97 0 rfl ?_
            refine nt_iconst X dX9_counts_99 nt_ci_2 ?_
            refine nt_iadd X dX9_counts_100 ?_
            have h := nt_R_some h
            exact nt_iret X dX9_counts_101 (nt_pe h hg)
          · have h := ht q12
            refine nt_iload_n X dX9_counts_83 rfl 4 rfl ?_
            refine nt_bipush X dX9_counts_84 nt_cb_60 ?_
            obtain ⟨ht, hf⟩ := nt_R_if h
            refine nt_icmp_lt X 97 dX9_counts_86 (by decide) (fun q13 => ?_) (fun q13 => ?_)
            · have h := ht q13
              refine nt_iload X dX9_counts_97 0 rfl ?_
              refine nt_iconst X dX9_counts_99 nt_ci_2 ?_
              refine nt_iadd X dX9_counts_100 ?_
              have h := nt_R_some h
              exact nt_iret X dX9_counts_101 (nt_pe h hg)
            · have h := hf q13
              refine nt_iload X dX9_counts_89 0 rfl ?_
              refine nt_bipush X dX9_counts_91 nt_cb_7 ?_
              refine nt_iadd X dX9_counts_93 ?_
              refine nt_goto X 101 dX9_counts_94 (by decide) ?_
              have h := nt_R_some h
              exact nt_iret X dX9_counts_101 (nt_pe h hg)
        · have h := ht q11
          refine nt_iload X dX9_counts_69 0 rfl ?_
          refine nt_iconst X dX9_counts_71 nt_ci_2 ?_
          refine nt_iadd X dX9_counts_72 ?_
          refine nt_iconst X dX9_counts_73 nt_ci_2 ?_
          obtain ⟨q14, h⟩ := nt_R_gd h
          refine nt_idiv X dX9_counts_74 (of_decide_eq_true q14) ?_
          refine nt_goto X 101 dX9_counts_75 (by decide) ?_
          have h := nt_R_some h
          exact nt_iret X dX9_counts_101 (nt_pe h hg)
      · have h := ht q10
        refine nt_sub [2, 3, 4, 1, 0] rfl ?_
        exact tjMo_counts_32 hw X x1 x2 v2 v4 g hg h
  · have h := ht q5
    refine nt_iload X dX9_counts_19 0 rfl ?_
    have h := nt_R_some h
    exact nt_iret X dX9_counts_21 (nt_pe h hg)
def fMo_stays (x1 : Int32) (g : nt_T) : Option (Int32) :=
  nt_gd (nt_in x1 8) <| nt_lt (g 4 (Int32.toNatClampNeg x1)) fun v2 => (if v2 = (2 : Int32) then
    (some (15 : Int32))
  else
    ((if v2 = 0 then
    (some (30 : Int32))
  else
    ((if v2 = (4 : Int32) then
    (some (30 : Int32))
  else
    ((if v2 = (3 : Int32) then
    (nt_gd (nt_in x1 8) <| some ((10 : Int32) + (g 6 (Int32.toNatClampNeg x1))))
  else
    (nt_gd (nt_in x1 8) <| some ((30 : Int32) + (g 6 (Int32.toNatClampNeg x1)))))))))))
set_option maxRecDepth 100000 in
set_option maxHeartbeats 4000000 in
theorem cMo_stays {l : Launch} {w : nt_w} (hw : nt_isM w) {x1 : Int32} {g : nt_T} {r : Int32} (hf : fMo_stays x1 g = some r) : nt_Mi l w yX9_stays cX9_stays 3 (some .int) 1 [.ref (nt_a w 0), .int x1] g r g := by
  refine nt_Mi_of (by decide) (Nat.le_of_ble_eq_true rfl) (fun p e s m args below meth c A X => ?_)
  have X : nt_X cX9_stays 3 RX9 (some .int) w A p s m args meth c := X
  have hg : g = g := rfl
  have h : nt_R (fMo_stays x1 g) (fun z => z = r) := ⟨_, hf, rfl⟩
  unfold fMo_stays at h
  show nt_G p l e (nt_rm 1) s m args below meth c w A 0 0 (nt_Qi w A below args s r g) 3 0 [(0, .ref (nt_a w 0)), (1, .int x1)] [] g
  refine nt_aload_n X dX9_stays_0 rfl 0 rfl ?_
  refine nt_get X 0 inX9 (nt_lM hw (Nat.le_of_ble_eq_true rfl)) (nt_m0 hw) rfl (j := 7) (by decide) wd_629 (v := .ref (nt_a w 4)) rfl dX9_stays_1 ?_
  refine nt_iload_n X dX9_stays_4 rfl 1 rfl ?_
  obtain ⟨q1, h⟩ := nt_R_gd h
  refine nt_iald X 4 0 (nt_lM hw (Nat.le_of_ble_eq_true rfl)) (nt_m4 hw) (nt_tM hw) q1 dX9_stays_5 ?_
  obtain ⟨v2, ev2, h⟩ := nt_R_lt h
  refine nt_topi ev2 ?_
  refine nt_istore_n X [(2, .int v2), (0, .ref (nt_a w 0)), (1, .int x1)] dX9_stays_6 rfl (by decide) rfl ?_
  refine nt_iload_n X dX9_stays_7 rfl 0 rfl ?_
  refine nt_iconst X dX9_stays_8 nt_ci_2 ?_
  obtain ⟨ht, hf⟩ := nt_R_if h
  refine nt_icmp_ne X 15 dX9_stays_9 (by decide) (fun q3 => ?_) (fun q3 => ?_)
  · have h := hf q3
    refine nt_iload_n X dX9_stays_15 rfl 0 rfl ?_
    obtain ⟨ht, hf⟩ := nt_R_if h
    refine nt_if_eq X 24 dX9_stays_16 (by decide) (fun q4 => ?_) (fun q4 => ?_)
    · have h := ht q4
      refine nt_bipush X dX9_stays_24 nt_cb_30 ?_
      have h := nt_R_some h
      exact nt_iret X dX9_stays_26 (nt_pe h hg)
    · have h := hf q4
      refine nt_iload_n X dX9_stays_19 rfl 0 rfl ?_
      refine nt_iconst X dX9_stays_20 nt_ci_4 ?_
      obtain ⟨ht, hf⟩ := nt_R_if h
      refine nt_icmp_ne X 27 dX9_stays_21 (by decide) (fun q5 => ?_) (fun q5 => ?_)
      · have h := hf q5
        refine nt_iload_n X dX9_stays_27 rfl 0 rfl ?_
        refine nt_iconst X dX9_stays_28 nt_ci_3 ?_
        obtain ⟨ht, hf⟩ := nt_R_if h
        refine nt_icmp_ne X 44 dX9_stays_29 (by decide) (fun q6 => ?_) (fun q6 => ?_)
        · have h := hf q6
          refine nt_bipush X dX9_stays_44 nt_cb_30 ?_
          refine nt_aload_n X dX9_stays_46 rfl 1 rfl ?_
          refine nt_get X 0 inX9 (nt_lM hw (Nat.le_of_ble_eq_true rfl)) (nt_m0 hw) rfl (j := 9) (by decide) wd_631 (v := .ref (nt_a w 6)) rfl dX9_stays_47 ?_
          refine nt_iload_n X dX9_stays_50 rfl 2 rfl ?_
          obtain ⟨q7, h⟩ := nt_R_gd h
          refine nt_iald X 6 0 (nt_lM hw (Nat.le_of_ble_eq_true rfl)) (nt_m6 hw) (nt_tM hw) q7 dX9_stays_51 ?_
          refine nt_iadd X dX9_stays_52 ?_
          have h := nt_R_some h
          exact nt_iret X dX9_stays_53 (nt_pe h hg)
        · have h := ht q6
          refine nt_bipush X dX9_stays_32 nt_cb_10 ?_
          refine nt_aload_n X dX9_stays_34 rfl 1 rfl ?_
          refine nt_get X 0 inX9 (nt_lM hw (Nat.le_of_ble_eq_true rfl)) (nt_m0 hw) rfl (j := 9) (by decide) wd_631 (v := .ref (nt_a w 6)) rfl dX9_stays_35 ?_
          refine nt_iload_n X dX9_stays_38 rfl 2 rfl ?_
          obtain ⟨q8, h⟩ := nt_R_gd h
          refine nt_iald X 6 0 (nt_lM hw (Nat.le_of_ble_eq_true rfl)) (nt_m6 hw) (nt_tM hw) q8 dX9_stays_39 ?_
          refine nt_iadd X dX9_stays_40 ?_
          refine nt_goto X 53 dX9_stays_41 (by decide) ?_
          have h := nt_R_some h
          exact nt_iret X dX9_stays_53 (nt_pe h hg)
      · have h := ht q5
        refine nt_bipush X dX9_stays_24 nt_cb_30 ?_
        have h := nt_R_some h
        exact nt_iret X dX9_stays_26 (nt_pe h hg)
  · have h := ht q3
    refine nt_bipush X dX9_stays_12 nt_cb_15 ?_
    have h := nt_R_some h
    exact nt_iret X dX9_stays_14 (nt_pe h hg)
def fMo_told (x1 : Int32) (x2 : Int32) (x3 : Int32) (g : nt_T) : Option (Int32) :=
  nt_b1 (fMo_isStory x1 g) fun r1 => (if r1 = 0 then
    (some (-2 : Int32))
  else
    (nt_b1 (fMo_in (Int32.toInt64 x2) (0 : Int64) (5 : Int64) g) fun r3 => (if r3 = 0 then
    (some (-2 : Int32))
  else
    (nt_b1 (fMo_in (Int32.toInt64 x3) (0 : Int64) (99 : Int64) g) fun r5 => (if r5 = 0 then
    (some (-2 : Int32))
  else
    ((if (3 : Int32) ≤ x2 then
    ((if x2 = (3 : Int32) then
    (nt_gd (nt_in x1 8) <| some (g 7 (Int32.toNatClampNeg x1)))
  else
    ((if x2 = (4 : Int32) then
    (nt_b1 (fMo_stays x1 g) fun r11 => some r11)
  else
    (nt_b1 (fMo_counts x1 x3 g) fun r10 => some r10)))))
  else
    ((if x2 = 0 then
    (nt_gd (nt_in x1 8) <| some (g 4 (Int32.toNatClampNeg x1)))
  else
    ((if x2 = (1 : Int32) then
    (nt_gd (nt_in x1 8) <| some (g 5 (Int32.toNatClampNeg x1)))
  else
    (nt_gd (nt_in x1 8) <| some (g 6 (Int32.toNatClampNeg x1))))))))))))))
set_option maxRecDepth 100000 in
set_option maxHeartbeats 4000000 in
theorem cMo_told {l : Launch} {w : nt_w} (hw : nt_isM w) {x1 : Int32} {x2 : Int32} {x3 : Int32} {g : nt_T} {r : Int32} (hf : fMo_told x1 x2 x3 g = some r) : nt_Mi l w yX9_told cX9_told 4 (some .int) 5 [.ref (nt_a w 0), .int x1, .int x2, .int x3] g r g := by
  refine nt_Mi_of (by decide) (Nat.le_of_ble_eq_true rfl) (fun p e s m args below meth c A X => ?_)
  have X : nt_X cX9_told 4 RX9 (some .int) w A p s m args meth c := X
  have hg : g = g := rfl
  have h : nt_R (fMo_told x1 x2 x3 g) (fun z => z = r) := ⟨_, hf, rfl⟩
  unfold fMo_told at h
  show nt_G p l e (nt_rm 5) s m args below meth c w A 0 0 (nt_Qi w A below args s r g) 4 0 [(0, .ref (nt_a w 0)), (1, .int x1), (2, .int x2), (3, .int x3)] [] g
  refine nt_aload_n X dX9_told_0 rfl 0 rfl ?_
  refine nt_iload_n X dX9_told_1 rfl 1 rfl ?_
  obtain ⟨r1, er1, h⟩ := nt_R_b1 h
  refine nt_cVi X (As := [.int x1]) 0 (nt_lM hw (Nat.le_of_ble_eq_true rfl)) (nt_m0 hw) rfl (cMo_isStory hw er1) wd_740 wd_738 wd_739 wd_1076 wd_16 rfl hd_X9_isStory ⟨Nat.le_of_ble_eq_true rfl, Nat.le_of_ble_eq_true rfl⟩ ⟨Nat.le_refl 0, Nat.le_refl 0⟩ (Nat.le_of_ble_eq_true rfl) rfl dX9_told_2 ?_
  obtain ⟨ht, hf⟩ := nt_R_if h
  refine nt_if_eq X 32 dX9_told_5 (by decide) (fun q2 => ?_) (fun q2 => ?_)
  · have h := ht q2
    refine nt_bipush X dX9_told_32 nt_cb_m2 ?_
    have h := nt_R_some h
    exact nt_iret X dX9_told_34 (nt_pe h hg)
  · have h := hf q2
    refine nt_iload_n X dX9_told_8 rfl 2 rfl ?_
    refine nt_i2l X dX9_told_9 rfl ?_
    refine nt_lconst X dX9_told_10 nt_cl_0 ?_
    refine nt_ldc2 X wd_729 dX9_told_11 ?_
    obtain ⟨r3, er3, h⟩ := nt_R_b1 h
    refine nt_cSi X (As := [.long (Int32.toInt64 x2), .long (0 : Int64), .long (5 : Int64)]) (cMo_in hw er3) wd_732 wd_730 wd_731 wd_16 hd_X9_in ⟨Nat.le_of_ble_eq_true rfl, Nat.le_of_ble_eq_true rfl⟩ ⟨Nat.le_refl 0, Nat.le_refl 0⟩ (Nat.le_of_ble_eq_true rfl) rfl dX9_told_14 ?_
    obtain ⟨ht, hf⟩ := nt_R_if h
    refine nt_if_eq X 32 dX9_told_17 (by decide) (fun q4 => ?_) (fun q4 => ?_)
    · have h := ht q4
      refine nt_bipush X dX9_told_32 nt_cb_m2 ?_
      have h := nt_R_some h
      exact nt_iret X dX9_told_34 (nt_pe h hg)
    · have h := hf q4
      refine nt_iload_n X dX9_told_20 rfl 3 rfl ?_
      refine nt_i2l X dX9_told_21 rfl ?_
      refine nt_lconst X dX9_told_22 nt_cl_0 ?_
      refine nt_ldc2 X wd_759 dX9_told_23 ?_
      obtain ⟨r5, er5, h⟩ := nt_R_b1 h
      refine nt_cSi X (As := [.long (Int32.toInt64 x3), .long (0 : Int64), .long (99 : Int64)]) (cMo_in hw er5) wd_732 wd_730 wd_731 wd_16 hd_X9_in ⟨Nat.le_of_ble_eq_true rfl, Nat.le_of_ble_eq_true rfl⟩ ⟨Nat.le_refl 0, Nat.le_refl 0⟩ (Nat.le_of_ble_eq_true rfl) rfl dX9_told_26 ?_
      obtain ⟨ht, hf⟩ := nt_R_if h
      refine nt_if_ne X 35 dX9_told_29 (by decide) (fun q6 => ?_) (fun q6 => ?_)
      · have h := hf q6
        refine nt_iload_n X dX9_told_35 rfl 2 rfl ?_
        refine nt_iconst X dX9_told_36 nt_ci_3 ?_
        obtain ⟨ht, hf⟩ := nt_R_if h
        refine nt_icmp_ge X 74 dX9_told_37 (by decide) (fun q7 => ?_) (fun q7 => ?_)
        · have h := ht q7
          refine nt_iload_n X dX9_told_74 rfl 2 rfl ?_
          refine nt_iconst X dX9_told_75 nt_ci_3 ?_
          obtain ⟨ht, hf⟩ := nt_R_if h
          refine nt_icmp_ne X 88 dX9_told_76 (by decide) (fun q8 => ?_) (fun q8 => ?_)
          · have h := hf q8
            refine nt_iload_n X dX9_told_88 rfl 2 rfl ?_
            refine nt_iconst X dX9_told_89 nt_ci_4 ?_
            obtain ⟨ht, hf⟩ := nt_R_if h
            refine nt_icmp_ne X 101 dX9_told_90 (by decide) (fun q9 => ?_) (fun q9 => ?_)
            · have h := hf q9
              refine nt_aload_n X dX9_told_101 rfl 0 rfl ?_
              refine nt_iload_n X dX9_told_102 rfl 1 rfl ?_
              refine nt_iload_n X dX9_told_103 rfl 3 rfl ?_
              obtain ⟨r10, er10, h⟩ := nt_R_b1 h
              refine nt_cVi X (As := [.int x1, .int x3]) 0 (nt_lM hw (Nat.le_of_ble_eq_true rfl)) (nt_m0 hw) rfl (cMo_counts hw er10) wd_773 wd_771 wd_772 wd_1080 wd_16 rfl hd_X9_counts ⟨Nat.le_of_ble_eq_true rfl, Nat.le_of_ble_eq_true rfl⟩ ⟨Nat.le_refl 0, Nat.le_refl 0⟩ (Nat.le_of_ble_eq_true rfl) rfl dX9_told_104 ?_
              have h := nt_R_some h
              exact nt_iret X dX9_told_107 (nt_pe h hg)
            · have h := ht q9
              refine nt_aload_n X dX9_told_93 rfl 0 rfl ?_
              refine nt_iload_n X dX9_told_94 rfl 1 rfl ?_
              obtain ⟨r11, er11, h⟩ := nt_R_b1 h
              refine nt_cVi X (As := [.int x1]) 0 (nt_lM hw (Nat.le_of_ble_eq_true rfl)) (nt_m0 hw) rfl (cMo_stays hw er11) wd_770 wd_768 wd_769 wd_1079 wd_16 rfl hd_X9_stays ⟨Nat.le_of_ble_eq_true rfl, Nat.le_of_ble_eq_true rfl⟩ ⟨Nat.le_refl 0, Nat.le_refl 0⟩ (Nat.le_of_ble_eq_true rfl) rfl dX9_told_95 ?_
              refine nt_goto X 107 dX9_told_98 (by decide) ?_
              have h := nt_R_some h
              exact nt_iret X dX9_told_107 (nt_pe h hg)
          · have h := ht q8
            refine nt_aload_n X dX9_told_79 rfl 0 rfl ?_
            refine nt_get X 0 inX9 (nt_lM hw (Nat.le_of_ble_eq_true rfl)) (nt_m0 hw) rfl (j := 10) (by decide) wd_632 (v := .ref (nt_a w 7)) rfl dX9_told_80 ?_
            refine nt_iload_n X dX9_told_83 rfl 1 rfl ?_
            obtain ⟨q12, h⟩ := nt_R_gd h
            refine nt_iald X 7 0 (nt_lM hw (Nat.le_of_ble_eq_true rfl)) (nt_m7 hw) (nt_tM hw) q12 dX9_told_84 ?_
            refine nt_goto X 107 dX9_told_85 (by decide) ?_
            have h := nt_R_some h
            exact nt_iret X dX9_told_107 (nt_pe h hg)
        · have h := hf q7
          refine nt_iload_n X dX9_told_40 rfl 2 rfl ?_
          obtain ⟨ht, hf⟩ := nt_R_if h
          refine nt_if_ne X 53 dX9_told_41 (by decide) (fun q13 => ?_) (fun q13 => ?_)
          · have h := hf q13
            refine nt_iload_n X dX9_told_53 rfl 2 rfl ?_
            refine nt_iconst X dX9_told_54 nt_ci_1 ?_
            obtain ⟨ht, hf⟩ := nt_R_if h
            refine nt_icmp_ne X 67 dX9_told_55 (by decide) (fun q14 => ?_) (fun q14 => ?_)
            · have h := hf q14
              refine nt_aload_n X dX9_told_67 rfl 0 rfl ?_
              refine nt_get X 0 inX9 (nt_lM hw (Nat.le_of_ble_eq_true rfl)) (nt_m0 hw) rfl (j := 9) (by decide) wd_631 (v := .ref (nt_a w 6)) rfl dX9_told_68 ?_
              refine nt_iload_n X dX9_told_71 rfl 1 rfl ?_
              obtain ⟨q15, h⟩ := nt_R_gd h
              refine nt_iald X 6 0 (nt_lM hw (Nat.le_of_ble_eq_true rfl)) (nt_m6 hw) (nt_tM hw) q15 dX9_told_72 ?_
              have h := nt_R_some h
              exact nt_iret X dX9_told_73 (nt_pe h hg)
            · have h := ht q14
              refine nt_aload_n X dX9_told_58 rfl 0 rfl ?_
              refine nt_get X 0 inX9 (nt_lM hw (Nat.le_of_ble_eq_true rfl)) (nt_m0 hw) rfl (j := 8) (by decide) wd_630 (v := .ref (nt_a w 5)) rfl dX9_told_59 ?_
              refine nt_iload_n X dX9_told_62 rfl 1 rfl ?_
              obtain ⟨q16, h⟩ := nt_R_gd h
              refine nt_iald X 5 0 (nt_lM hw (Nat.le_of_ble_eq_true rfl)) (nt_m5 hw) (nt_tM hw) q16 dX9_told_63 ?_
              refine nt_goto X 73 dX9_told_64 (by decide) ?_
              have h := nt_R_some h
              exact nt_iret X dX9_told_73 (nt_pe h hg)
          · have h := ht q13
            refine nt_aload_n X dX9_told_44 rfl 0 rfl ?_
            refine nt_get X 0 inX9 (nt_lM hw (Nat.le_of_ble_eq_true rfl)) (nt_m0 hw) rfl (j := 7) (by decide) wd_629 (v := .ref (nt_a w 4)) rfl dX9_told_45 ?_
            refine nt_iload_n X dX9_told_48 rfl 1 rfl ?_
            obtain ⟨q17, h⟩ := nt_R_gd h
            refine nt_iald X 4 0 (nt_lM hw (Nat.le_of_ble_eq_true rfl)) (nt_m4 hw) (nt_tM hw) q17 dX9_told_49 ?_
            refine nt_goto X 73 dX9_told_50 (by decide) ?_
            have h := nt_R_some h
            exact nt_iret X dX9_told_73 (nt_pe h hg)
      · have h := ht q6
        refine nt_bipush X dX9_told_32 nt_cb_m2 ?_
        have h := nt_R_some h
        exact nt_iret X dX9_told_34 (nt_pe h hg)
def bMo_known_9 (x1 : Int32) (g : nt_T) (x2 : Int32) (x3 : Int32) : Option ((Int32 × Int32) ⊕ ((Int32))) :=
  (if (g 0 11) ≤ x3 then
    (some (.inr x2))
  else
    (nt_gd (nt_in x1 9) <| (if (((g 10 (Int32.toNatClampNeg x1)) >>> (x3 &&& 31)) &&& (1 : Int32)) = (1 : Int32) then
    (nt_gd (nt_in x3 8) <| (if (g 7 (Int32.toNatClampNeg x3)) = (-1 : Int32) then
    (nt_lt (x3 + (1 : Int32)) fun v9 => some (.inl (x2, v9)))
  else
    (nt_gd (nt_in x3 8) <| nt_lt (x2 ||| ((1 : Int32) <<< ((g 7 (Int32.toNatClampNeg x3)) &&& 31))) fun v11 => nt_lt (x3 + (1 : Int32)) fun v12 => some (.inl (v11, v12)))))
  else
    (nt_lt (x3 + (1 : Int32)) fun v6 => some (.inl (x2, v6))))))
set_option maxRecDepth 100000 in
set_option maxHeartbeats 4000000 in
theorem tbMo_known_9 {p : Program} {l : Launch} {e : Env} {s : State} {m : MethodId} {args : Array Value} {below : List Frame} {meth : Method} {c : Code} {w : nt_w} {A : Nat → Prop} (hw : nt_isM w) {Q : State → Prop} (X : nt_X cX9_known 4 RX9 (some .int) w A p s m args meth c) (x1 : Int32) (g : nt_T)  {Qx : ((Int32)) → Prop} (hE0 : ∀ (y2 : Int32), Qx y2 → nt_G p l e (nt_rm 1) s m args below meth c w A 0 0 Q 4 58 [(0, .ref (nt_a w 0)), (1, .int x1), (2, .int y2)] [] g) : ∀ (n : Nat) (x2 : Int32) (x3 : Int32), nt_R (nt_it (fun z => bMo_known_9 x1 g z.1 z.2) n (x2, x3)) Qx → nt_G p l e (nt_rm 1) s m args below meth c w A 0 0 Q 4 9 [(0, .ref (nt_a w 0)), (1, .int x1), (2, .int x2), (3, .int x3)] [] g := by
  intro n
  induction n with
  | zero =>
    intro x2 x3 h
    exact nt_R_none h
  | succ n ih =>
    intro x2 x3 h
    have h : nt_R (bMo_known_9 x1 g x2 x3) (nt_Qz (fun z => bMo_known_9 x1 g z.1 z.2) n Qx) := nt_R_it h
    have hI : ∀ (y2 : Int32) (y3 : Int32), nt_Qz (fun z => bMo_known_9 x1 g z.1 z.2) n Qx (.inl (y2, y3)) → nt_G p l e (nt_rm 1) s m args below meth c w A 0 0 Q 4 9 [(0, .ref (nt_a w 0)), (1, .int x1), (2, .int y2), (3, .int y3)] [] g := fun y2 y3 q => ih y2 y3 q
    have hE0 : ∀ (y2 : Int32), nt_Qz (fun z => bMo_known_9 x1 g z.1 z.2) n Qx (.inr y2) → nt_G p l e (nt_rm 1) s m args below meth c w A 0 0 Q 4 58 [(0, .ref (nt_a w 0)), (1, .int x1), (2, .int y2)] [] g := hE0
    generalize nt_Qz (fun z => bMo_known_9 x1 g z.1 z.2) n Qx = Qz at h hI hE0
    unfold bMo_known_9 at h
    refine nt_iload_n X dX9_known_9 rfl 3 rfl ?_
    refine nt_aload_n X dX9_known_10 rfl 0 rfl ?_
    refine nt_get X 0 inX9 (nt_lM hw (Nat.le_of_ble_eq_true rfl)) (nt_m0 hw) rfl (j := 11) (by decide) wd_633 (v := .int (g 0 11)) rfl dX9_known_11 ?_
    obtain ⟨ht, hf⟩ := nt_R_if h
    refine nt_icmp_ge X 58 dX9_known_14 (by decide) (fun q3 => ?_) (fun q3 => ?_)
    · have h := ht q3
      refine nt_sub [0, 1, 2] rfl ?_
      have h := nt_R_some h
      exact hE0 x2 h
    · have h := hf q3
      refine nt_aload_n X dX9_known_17 rfl 0 rfl ?_
      refine nt_get X 0 inX9 (nt_lM hw (Nat.le_of_ble_eq_true rfl)) (nt_m0 hw) rfl (j := 14) (by decide) wd_636 (v := .ref (nt_a w 10)) rfl dX9_known_18 ?_
      refine nt_iload_n X dX9_known_21 rfl 1 rfl ?_
      obtain ⟨q4, h⟩ := nt_R_gd h
      refine nt_iald X 10 0 (nt_lM hw (Nat.le_of_ble_eq_true rfl)) (nt_m10 hw) (nt_tM hw) q4 dX9_known_22 ?_
      refine nt_iload_n X dX9_known_23 rfl 3 rfl ?_
      refine nt_ishr X dX9_known_24 ?_
      refine nt_iconst X dX9_known_25 nt_ci_1 ?_
      refine nt_iand X dX9_known_26 ?_
      refine nt_iconst X dX9_known_27 nt_ci_1 ?_
      obtain ⟨ht, hf⟩ := nt_R_if h
      refine nt_icmp_ne X 52 dX9_known_28 (by decide) (fun q5 => ?_) (fun q5 => ?_)
      · have h := hf q5
        obtain ⟨v6, ev6, h⟩ := nt_R_lt h
        refine nt_iinc X v6 [(3, .int v6), (0, .ref (nt_a w 0)), (1, .int x1), (2, .int x2)] dX9_known_52 3 rfl (by rw [nt_ci_1]; exact ev6) (by decide) rfl ?_
        refine nt_goto X 9 dX9_known_55 (by decide) ?_
        refine nt_sub [1, 2, 3, 0] rfl ?_
        have h := nt_R_some h
        exact hI x2 v6 h
      · have h := ht q5
        refine nt_aload_n X dX9_known_31 rfl 0 rfl ?_
        refine nt_get X 0 inX9 (nt_lM hw (Nat.le_of_ble_eq_true rfl)) (nt_m0 hw) rfl (j := 10) (by decide) wd_632 (v := .ref (nt_a w 7)) rfl dX9_known_32 ?_
        refine nt_iload_n X dX9_known_35 rfl 3 rfl ?_
        obtain ⟨q7, h⟩ := nt_R_gd h
        refine nt_iald X 7 0 (nt_lM hw (Nat.le_of_ble_eq_true rfl)) (nt_m7 hw) (nt_tM hw) q7 dX9_known_36 ?_
        refine nt_iconst X dX9_known_37 nt_ci_m1 ?_
        obtain ⟨ht, hf⟩ := nt_R_if h
        refine nt_icmp_eq X 52 dX9_known_38 (by decide) (fun q8 => ?_) (fun q8 => ?_)
        · have h := ht q8
          obtain ⟨v9, ev9, h⟩ := nt_R_lt h
          refine nt_iinc X v9 [(3, .int v9), (0, .ref (nt_a w 0)), (1, .int x1), (2, .int x2)] dX9_known_52 3 rfl (by rw [nt_ci_1]; exact ev9) (by decide) rfl ?_
          refine nt_goto X 9 dX9_known_55 (by decide) ?_
          refine nt_sub [1, 2, 3, 0] rfl ?_
          have h := nt_R_some h
          exact hI x2 v9 h
        · have h := hf q8
          refine nt_iload_n X dX9_known_41 rfl 2 rfl ?_
          refine nt_iconst X dX9_known_42 nt_ci_1 ?_
          refine nt_aload_n X dX9_known_43 rfl 0 rfl ?_
          refine nt_get X 0 inX9 (nt_lM hw (Nat.le_of_ble_eq_true rfl)) (nt_m0 hw) rfl (j := 10) (by decide) wd_632 (v := .ref (nt_a w 7)) rfl dX9_known_44 ?_
          refine nt_iload_n X dX9_known_47 rfl 3 rfl ?_
          obtain ⟨q10, h⟩ := nt_R_gd h
          refine nt_iald X 7 0 (nt_lM hw (Nat.le_of_ble_eq_true rfl)) (nt_m7 hw) (nt_tM hw) q10 dX9_known_48 ?_
          refine nt_ishl X dX9_known_49 ?_
          refine nt_ior X dX9_known_50 ?_
          obtain ⟨v11, ev11, h⟩ := nt_R_lt h
          refine nt_topi ev11 ?_
          refine nt_istore_n X [(2, .int v11), (0, .ref (nt_a w 0)), (1, .int x1), (3, .int x3)] dX9_known_51 rfl (by decide) rfl ?_
          obtain ⟨v12, ev12, h⟩ := nt_R_lt h
          refine nt_iinc X v12 [(3, .int v12), (2, .int v11), (0, .ref (nt_a w 0)), (1, .int x1)] dX9_known_52 3 rfl (by rw [nt_ci_1]; exact ev12) (by decide) rfl ?_
          refine nt_goto X 9 dX9_known_55 (by decide) ?_
          refine nt_sub [2, 3, 1, 0] rfl ?_
          have h := nt_R_some h
          exact hI v11 v12 h
def fMo_known (x1 : Int32) (g : nt_T) : Option (Int32) :=
  nt_gd (nt_in x1 9) <| nt_lt (g 10 (Int32.toNatClampNeg x1)) fun v2 => (nt_b1 (nt_it (fun z => bMo_known_9 x1 g z.1 z.2) nt_fu (v2, (0 : Int32))) fun v13 => some v13)
set_option maxRecDepth 100000 in
set_option maxHeartbeats 4000000 in
theorem cMo_known {l : Launch} {w : nt_w} (hw : nt_isM w) {x1 : Int32} {g : nt_T} {r : Int32} (hf : fMo_known x1 g = some r) : nt_Mi l w yX9_known cX9_known 4 (some .int) 1 [.ref (nt_a w 0), .int x1] g r g := by
  refine nt_Mi_of (by decide) (Nat.le_of_ble_eq_true rfl) (fun p e s m args below meth c A X => ?_)
  have X : nt_X cX9_known 4 RX9 (some .int) w A p s m args meth c := X
  have hg : g = g := rfl
  have h : nt_R (fMo_known x1 g) (fun z => z = r) := ⟨_, hf, rfl⟩
  unfold fMo_known at h
  show nt_G p l e (nt_rm 1) s m args below meth c w A 0 0 (nt_Qi w A below args s r g) 4 0 [(0, .ref (nt_a w 0)), (1, .int x1)] [] g
  refine nt_aload_n X dX9_known_0 rfl 0 rfl ?_
  refine nt_get X 0 inX9 (nt_lM hw (Nat.le_of_ble_eq_true rfl)) (nt_m0 hw) rfl (j := 14) (by decide) wd_636 (v := .ref (nt_a w 10)) rfl dX9_known_1 ?_
  refine nt_iload_n X dX9_known_4 rfl 1 rfl ?_
  obtain ⟨q1, h⟩ := nt_R_gd h
  refine nt_iald X 10 0 (nt_lM hw (Nat.le_of_ble_eq_true rfl)) (nt_m10 hw) (nt_tM hw) q1 dX9_known_5 ?_
  obtain ⟨v2, ev2, h⟩ := nt_R_lt h
  refine nt_topi ev2 ?_
  refine nt_istore_n X [(2, .int v2), (0, .ref (nt_a w 0)), (1, .int x1)] dX9_known_6 rfl (by decide) rfl ?_
  refine nt_iconst X dX9_known_7 nt_ci_0 ?_
  refine nt_istore_n X [(3, .int (0 : Int32)), (2, .int v2), (0, .ref (nt_a w 0)), (1, .int x1)] dX9_known_8 rfl (by decide) rfl ?_
  obtain ⟨z14, hz14, h⟩ := nt_R_b1 h
  refine nt_sub [2, 3, 1, 0] rfl ?_
  refine tbMo_known_9 hw X x1 g (Qx := fun z => z = z14) (fun v13 hq => ?_) nt_fu v2 (0 : Int32) ⟨_, hz14, rfl⟩
  subst hq
  refine nt_iload_n X dX9_known_58 rfl 2 rfl ?_
  have h := nt_R_some h
  exact nt_iret X dX9_known_59 (nt_pe h hg)
def fMo_one (x1 : Int32) (x2 : Int32) (g : nt_T) : Option (Int32) :=
  nt_b1 (fMo_isPerson x1 g) fun r1 => (if r1 = 0 then
    (some (-2 : Int32))
  else
    (nt_b1 (fMo_in (Int32.toInt64 x2) (0 : Int64) (4 : Int64) g) fun r3 => (if r3 = 0 then
    (some (-2 : Int32))
  else
    ((if (3 : Int32) ≤ x2 then
    ((if x2 = (3 : Int32) then
    (nt_gd (nt_in x1 9) <| some (g 10 (Int32.toNatClampNeg x1)))
  else
    (nt_b1 (fMo_known x1 g) fun r7 => some r7)))
  else
    ((if x2 = 0 then
    (nt_gd (nt_in x1 9) <| some (g 11 (Int32.toNatClampNeg x1)))
  else
    ((if x2 = (1 : Int32) then
    (nt_gd (nt_in x1 9) <| some (g 8 (Int32.toNatClampNeg x1)))
  else
    (nt_gd (nt_in x1 9) <| some (g 9 (Int32.toNatClampNeg x1))))))))))))
set_option maxRecDepth 100000 in
set_option maxHeartbeats 4000000 in
theorem cMo_one {l : Launch} {w : nt_w} (hw : nt_isM w) {x1 : Int32} {x2 : Int32} {g : nt_T} {r : Int32} (hf : fMo_one x1 x2 g = some r) : nt_Mi l w yX9_one cX9_one 3 (some .int) 5 [.ref (nt_a w 0), .int x1, .int x2] g r g := by
  refine nt_Mi_of (by decide) (Nat.le_of_ble_eq_true rfl) (fun p e s m args below meth c A X => ?_)
  have X : nt_X cX9_one 3 RX9 (some .int) w A p s m args meth c := X
  have hg : g = g := rfl
  have h : nt_R (fMo_one x1 x2 g) (fun z => z = r) := ⟨_, hf, rfl⟩
  unfold fMo_one at h
  show nt_G p l e (nt_rm 5) s m args below meth c w A 0 0 (nt_Qi w A below args s r g) 3 0 [(0, .ref (nt_a w 0)), (1, .int x1), (2, .int x2)] [] g
  refine nt_aload_n X dX9_one_0 rfl 0 rfl ?_
  refine nt_iload_n X dX9_one_1 rfl 1 rfl ?_
  obtain ⟨r1, er1, h⟩ := nt_R_b1 h
  refine nt_cVi X (As := [.int x1]) 0 (nt_lM hw (Nat.le_of_ble_eq_true rfl)) (nt_m0 hw) rfl (cMo_isPerson hw er1) wd_757 wd_755 wd_756 wd_1078 wd_16 rfl hd_X9_isPerson ⟨Nat.le_of_ble_eq_true rfl, Nat.le_of_ble_eq_true rfl⟩ ⟨Nat.le_refl 0, Nat.le_refl 0⟩ (Nat.le_of_ble_eq_true rfl) rfl dX9_one_2 ?_
  obtain ⟨ht, hf⟩ := nt_R_if h
  refine nt_if_eq X 20 dX9_one_5 (by decide) (fun q2 => ?_) (fun q2 => ?_)
  · have h := ht q2
    refine nt_bipush X dX9_one_20 nt_cb_m2 ?_
    have h := nt_R_some h
    exact nt_iret X dX9_one_22 (nt_pe h hg)
  · have h := hf q2
    refine nt_iload_n X dX9_one_8 rfl 2 rfl ?_
    refine nt_i2l X dX9_one_9 rfl ?_
    refine nt_lconst X dX9_one_10 nt_cl_0 ?_
    refine nt_ldc2 X wd_778 dX9_one_11 ?_
    obtain ⟨r3, er3, h⟩ := nt_R_b1 h
    refine nt_cSi X (As := [.long (Int32.toInt64 x2), .long (0 : Int64), .long (4 : Int64)]) (cMo_in hw er3) wd_732 wd_730 wd_731 wd_16 hd_X9_in ⟨Nat.le_of_ble_eq_true rfl, Nat.le_of_ble_eq_true rfl⟩ ⟨Nat.le_refl 0, Nat.le_refl 0⟩ (Nat.le_of_ble_eq_true rfl) rfl dX9_one_14 ?_
    obtain ⟨ht, hf⟩ := nt_R_if h
    refine nt_if_ne X 23 dX9_one_17 (by decide) (fun q4 => ?_) (fun q4 => ?_)
    · have h := hf q4
      refine nt_iload_n X dX9_one_23 rfl 2 rfl ?_
      refine nt_iconst X dX9_one_24 nt_ci_3 ?_
      obtain ⟨ht, hf⟩ := nt_R_if h
      refine nt_icmp_ge X 62 dX9_one_25 (by decide) (fun q5 => ?_) (fun q5 => ?_)
      · have h := ht q5
        refine nt_iload_n X dX9_one_62 rfl 2 rfl ?_
        refine nt_iconst X dX9_one_63 nt_ci_3 ?_
        obtain ⟨ht, hf⟩ := nt_R_if h
        refine nt_icmp_ne X 76 dX9_one_64 (by decide) (fun q6 => ?_) (fun q6 => ?_)
        · have h := hf q6
          refine nt_aload_n X dX9_one_76 rfl 0 rfl ?_
          refine nt_iload_n X dX9_one_77 rfl 1 rfl ?_
          obtain ⟨r7, er7, h⟩ := nt_R_b1 h
          refine nt_cVi X (As := [.int x1]) 0 (nt_lM hw (Nat.le_of_ble_eq_true rfl)) (nt_m0 hw) rfl (cMo_known hw er7) wd_781 wd_779 wd_780 wd_1081 wd_16 rfl hd_X9_known ⟨Nat.le_of_ble_eq_true rfl, Nat.le_of_ble_eq_true rfl⟩ ⟨Nat.le_refl 0, Nat.le_refl 0⟩ (Nat.le_of_ble_eq_true rfl) rfl dX9_one_78 ?_
          have h := nt_R_some h
          exact nt_iret X dX9_one_81 (nt_pe h hg)
        · have h := ht q6
          refine nt_aload_n X dX9_one_67 rfl 0 rfl ?_
          refine nt_get X 0 inX9 (nt_lM hw (Nat.le_of_ble_eq_true rfl)) (nt_m0 hw) rfl (j := 14) (by decide) wd_636 (v := .ref (nt_a w 10)) rfl dX9_one_68 ?_
          refine nt_iload_n X dX9_one_71 rfl 1 rfl ?_
          obtain ⟨q8, h⟩ := nt_R_gd h
          refine nt_iald X 10 0 (nt_lM hw (Nat.le_of_ble_eq_true rfl)) (nt_m10 hw) (nt_tM hw) q8 dX9_one_72 ?_
          refine nt_goto X 81 dX9_one_73 (by decide) ?_
          have h := nt_R_some h
          exact nt_iret X dX9_one_81 (nt_pe h hg)
      · have h := hf q5
        refine nt_iload_n X dX9_one_28 rfl 2 rfl ?_
        obtain ⟨ht, hf⟩ := nt_R_if h
        refine nt_if_ne X 41 dX9_one_29 (by decide) (fun q9 => ?_) (fun q9 => ?_)
        · have h := hf q9
          refine nt_iload_n X dX9_one_41 rfl 2 rfl ?_
          refine nt_iconst X dX9_one_42 nt_ci_1 ?_
          obtain ⟨ht, hf⟩ := nt_R_if h
          refine nt_icmp_ne X 55 dX9_one_43 (by decide) (fun q10 => ?_) (fun q10 => ?_)
          · have h := hf q10
            refine nt_aload_n X dX9_one_55 rfl 0 rfl ?_
            refine nt_get X 0 inX9 (nt_lM hw (Nat.le_of_ble_eq_true rfl)) (nt_m0 hw) rfl (j := 13) (by decide) wd_635 (v := .ref (nt_a w 9)) rfl dX9_one_56 ?_
            refine nt_iload_n X dX9_one_59 rfl 1 rfl ?_
            obtain ⟨q11, h⟩ := nt_R_gd h
            refine nt_iald X 9 0 (nt_lM hw (Nat.le_of_ble_eq_true rfl)) (nt_m9 hw) (nt_tM hw) q11 dX9_one_60 ?_
            have h := nt_R_some h
            exact nt_iret X dX9_one_61 (nt_pe h hg)
          · have h := ht q10
            refine nt_aload_n X dX9_one_46 rfl 0 rfl ?_
            refine nt_get X 0 inX9 (nt_lM hw (Nat.le_of_ble_eq_true rfl)) (nt_m0 hw) rfl (j := 12) (by decide) wd_634 (v := .ref (nt_a w 8)) rfl dX9_one_47 ?_
            refine nt_iload_n X dX9_one_50 rfl 1 rfl ?_
            obtain ⟨q12, h⟩ := nt_R_gd h
            refine nt_iald X 8 0 (nt_lM hw (Nat.le_of_ble_eq_true rfl)) (nt_m8 hw) (nt_tM hw) q12 dX9_one_51 ?_
            refine nt_goto X 61 dX9_one_52 (by decide) ?_
            have h := nt_R_some h
            exact nt_iret X dX9_one_61 (nt_pe h hg)
        · have h := ht q9
          refine nt_aload_n X dX9_one_32 rfl 0 rfl ?_
          refine nt_get X 0 inX9 (nt_lM hw (Nat.le_of_ble_eq_true rfl)) (nt_m0 hw) rfl (j := 15) (by decide) wd_637 (v := .ref (nt_a w 11)) rfl dX9_one_33 ?_
          refine nt_iload_n X dX9_one_36 rfl 1 rfl ?_
          obtain ⟨q13, h⟩ := nt_R_gd h
          refine nt_iald X 11 0 (nt_lM hw (Nat.le_of_ble_eq_true rfl)) (nt_m11 hw) (nt_tM hw) q13 dX9_one_37 ?_
          refine nt_goto X 61 dX9_one_38 (by decide) ?_
          have h := nt_R_some h
          exact nt_iret X dX9_one_61 (nt_pe h hg)
    · have h := ht q4
      refine nt_bipush X dX9_one_20 nt_cb_m2 ?_
      have h := nt_R_some h
      exact nt_iret X dX9_one_22 (nt_pe h hg)
def fMo_feed (x1 : Int32) (g : nt_T) : Option (Int32 × nt_T) :=
  nt_b1 (fMo_in (Int32.toInt64 x1) (0 : Int64) (255 : Int64) g) fun r1 => (if r1 = 0 then
    (some ((-2 : Int32), g))
  else
    ((if (g 0 6) = (160 : Int32) then
    (some ((-4 : Int32), g))
  else
    (nt_gd (nt_in (g 0 6) 160) <| nt_lt (nt_st g 3 (Int32.toNatClampNeg (g 0 6)) x1) fun g5 => nt_lt (nt_st g5 0 6 ((g5 0 6) + (1 : Int32))) fun g6 => some ((g6 0 6), g6)))))
set_option maxRecDepth 100000 in
set_option maxHeartbeats 4000000 in
theorem cMo_feed {l : Launch} {w : nt_w} (hw : nt_isM w) {x1 : Int32} {g : nt_T} {r : Int32} {g2 : nt_T} (hf : fMo_feed x1 g = some (r, g2)) : nt_Mi l w yX9_feed cX9_feed 2 (some .int) 3 [.ref (nt_a w 0), .int x1] g r g2 := by
  refine nt_Mi_of (by decide) (Nat.le_of_ble_eq_true rfl) (fun p e s m args below meth c A X => ?_)
  have X : nt_X cX9_feed 2 RX9 (some .int) w A p s m args meth c := X
  have h : nt_R (fMo_feed x1 g) (fun z => z = (r, g2)) := ⟨_, hf, rfl⟩
  unfold fMo_feed at h
  show nt_G p l e (nt_rm 3) s m args below meth c w A 0 0 (nt_Qi w A below args s r g2) 2 0 [(0, .ref (nt_a w 0)), (1, .int x1)] [] g
  refine nt_iload_n X dX9_feed_0 rfl 1 rfl ?_
  refine nt_i2l X dX9_feed_1 rfl ?_
  refine nt_lconst X dX9_feed_2 nt_cl_0 ?_
  refine nt_ldc2 X wd_749 dX9_feed_3 ?_
  obtain ⟨r1, er1, h⟩ := nt_R_b1 h
  refine nt_cSi X (As := [.long (Int32.toInt64 x1), .long (0 : Int64), .long (255 : Int64)]) (cMo_in hw er1) wd_732 wd_730 wd_731 wd_16 hd_X9_in ⟨Nat.le_of_ble_eq_true rfl, Nat.le_of_ble_eq_true rfl⟩ ⟨Nat.le_refl 0, Nat.le_refl 0⟩ (Nat.le_of_ble_eq_true rfl) rfl dX9_feed_6 ?_
  obtain ⟨ht, hf⟩ := nt_R_if h
  refine nt_if_ne X 15 dX9_feed_9 (by decide) (fun q2 => ?_) (fun q2 => ?_)
  · have h := hf q2
    refine nt_aload_n X dX9_feed_15 rfl 0 rfl ?_
    refine nt_get X 0 inX9 (nt_lM hw (Nat.le_of_ble_eq_true rfl)) (nt_m0 hw) rfl (j := 6) (by decide) wd_628 (v := .int (g 0 6)) rfl dX9_feed_16 ?_
    refine nt_sipush X dX9_feed_19 nt_cs_160 ?_
    obtain ⟨ht, hf⟩ := nt_R_if h
    refine nt_icmp_ne X 28 dX9_feed_22 (by decide) (fun q3 => ?_) (fun q3 => ?_)
    · have h := hf q3
      refine nt_aload_n X dX9_feed_28 rfl 0 rfl ?_
      refine nt_get X 0 inX9 (nt_lM hw (Nat.le_of_ble_eq_true rfl)) (nt_m0 hw) rfl (j := 5) (by decide) wd_627 (v := .ref (nt_a w 3)) rfl dX9_feed_29 ?_
      refine nt_aload_n X dX9_feed_32 rfl 0 rfl ?_
      refine nt_get X 0 inX9 (nt_lM hw (Nat.le_of_ble_eq_true rfl)) (nt_m0 hw) rfl (j := 6) (by decide) wd_628 (v := .int (g 0 6)) rfl dX9_feed_33 ?_
      refine nt_iload_n X dX9_feed_36 rfl 1 rfl ?_
      obtain ⟨q4, h⟩ := nt_R_gd h
      refine nt_iast X 3 0 (nt_lM hw (Nat.le_of_ble_eq_true rfl)) (nt_m3 hw) (nt_tM hw) q4 dX9_feed_37 ?_
      obtain ⟨g5, eg5, h⟩ := nt_R_lt h
      refine nt_geq eg5 ?_
      refine nt_aload_n X dX9_feed_38 rfl 0 rfl ?_
      refine nt_dup X dX9_feed_39 rfl ?_
      refine nt_get X 0 inX9 (nt_lM hw (Nat.le_of_ble_eq_true rfl)) (nt_m0 hw) rfl (j := 6) (by decide) wd_628 (v := .int (g5 0 6)) rfl dX9_feed_40 ?_
      refine nt_iconst X dX9_feed_43 nt_ci_1 ?_
      refine nt_iadd X dX9_feed_44 ?_
      refine nt_put X 0 inX9 (nt_lM hw (Nat.le_of_ble_eq_true rfl)) (nt_m0 hw) rfl (j := 6) (by decide) wd_628 tyX9 tyX9_ok nmX9 rfl (ty := .int) rfl rfl rfl (fun _ => Nat.le_of_ble_eq_true rfl) (fun _ => rfl) dX9_feed_45 ?_
      obtain ⟨g6, eg6, h⟩ := nt_R_lt h
      refine nt_geq eg6 ?_
      refine nt_aload_n X dX9_feed_48 rfl 0 rfl ?_
      refine nt_get X 0 inX9 (nt_lM hw (Nat.le_of_ble_eq_true rfl)) (nt_m0 hw) rfl (j := 6) (by decide) wd_628 (v := .int (g6 0 6)) rfl dX9_feed_49 ?_
      have h := nt_R_some h
      exact nt_iret X dX9_feed_52 h
    · have h := ht q3
      refine nt_bipush X dX9_feed_25 nt_cb_m4 ?_
      have h := nt_R_some h
      exact nt_iret X dX9_feed_27 h
  · have h := ht q2
    refine nt_bipush X dX9_feed_12 nt_cb_m2 ?_
    have h := nt_R_some h
    exact nt_iret X dX9_feed_14 h
def fMo_byteAt (x1 : Int32) (g : nt_T) : Option (Int32) :=
  (if (g 0 26) ≤ x1 then
    (some (-1 : Int32))
  else
    (nt_gd (nt_in ((g 0 25) + x1) 960) <| some (g 1 (Int32.toNatClampNeg ((g 0 25) + x1)))))
set_option maxRecDepth 100000 in
set_option maxHeartbeats 4000000 in
theorem cMo_byteAt {l : Launch} {w : nt_w} (hw : nt_isM w) {x1 : Int32} {g : nt_T} {r : Int32} (hf : fMo_byteAt x1 g = some r) : nt_Mi l w yX9_byteAt cX9_byteAt 2 (some .int) 1 [.ref (nt_a w 0), .int x1] g r g := by
  refine nt_Mi_of (by decide) (Nat.le_of_ble_eq_true rfl) (fun p e s m args below meth c A X => ?_)
  have X : nt_X cX9_byteAt 2 RX9 (some .int) w A p s m args meth c := X
  have hg : g = g := rfl
  have h : nt_R (fMo_byteAt x1 g) (fun z => z = r) := ⟨_, hf, rfl⟩
  unfold fMo_byteAt at h
  show nt_G p l e (nt_rm 1) s m args below meth c w A 0 0 (nt_Qi w A below args s r g) 2 0 [(0, .ref (nt_a w 0)), (1, .int x1)] [] g
  refine nt_iload_n X dX9_byteAt_0 rfl 1 rfl ?_
  refine nt_aload_n X dX9_byteAt_1 rfl 0 rfl ?_
  refine nt_get X 0 inX9 (nt_lM hw (Nat.le_of_ble_eq_true rfl)) (nt_m0 hw) rfl (j := 26) (by decide) wd_648 (v := .int (g 0 26)) rfl dX9_byteAt_2 ?_
  obtain ⟨ht, hf⟩ := nt_R_if h
  refine nt_icmp_ge X 22 dX9_byteAt_5 (by decide) (fun q1 => ?_) (fun q1 => ?_)
  · have h := ht q1
    refine nt_iconst X dX9_byteAt_22 nt_ci_m1 ?_
    have h := nt_R_some h
    exact nt_iret X dX9_byteAt_23 (nt_pe h hg)
  · have h := hf q1
    refine nt_aload_n X dX9_byteAt_8 rfl 0 rfl ?_
    refine nt_get X 0 inX9 (nt_lM hw (Nat.le_of_ble_eq_true rfl)) (nt_m0 hw) rfl (j := 1) (by decide) wd_623 (v := .ref (nt_a w 1)) rfl dX9_byteAt_9 ?_
    refine nt_aload_n X dX9_byteAt_12 rfl 0 rfl ?_
    refine nt_get X 0 inX9 (nt_lM hw (Nat.le_of_ble_eq_true rfl)) (nt_m0 hw) rfl (j := 25) (by decide) wd_647 (v := .int (g 0 25)) rfl dX9_byteAt_13 ?_
    refine nt_iload_n X dX9_byteAt_16 rfl 1 rfl ?_
    refine nt_iadd X dX9_byteAt_17 ?_
    obtain ⟨q2, h⟩ := nt_R_gd h
    refine nt_iald X 1 0 (nt_lM hw (Nat.le_of_ble_eq_true rfl)) (nt_m1 hw) (nt_tM hw) q2 dX9_byteAt_18 ?_
    refine nt_goto X 23 dX9_byteAt_19 (by decide) ?_
    have h := nt_R_some h
    exact nt_iret X dX9_byteAt_23 (nt_pe h hg)
def jMo_next_26 (g : nt_T) : Option ((nt_T) ⊕ ((nt_T))) :=
  nt_lt (nt_st g 0 27 ((g 0 27) + (1 : Int32))) fun g3 => some (.inl g3)
set_option maxRecDepth 100000 in
set_option maxHeartbeats 4000000 in
theorem tjMo_next_26 {p : Program} {l : Launch} {e : Env} {s : State} {m : MethodId} {args : Array Value} {below : List Frame} {meth : Method} {c : Code} {w : nt_w} {A : Nat → Prop} (hw : nt_isM w) {Q : State → Prop} (X : nt_X cX9_next 3 RX9 none w A p s m args meth c) (g : nt_T) {Qz : (nt_T) ⊕ ((nt_T)) → Prop} (hI : ∀ (gy : nt_T), Qz (.inl gy) → nt_G p l e (nt_rm 3) s m args below meth c w A 0 0 Q 3 0 [(0, .ref (nt_a w 0))] [] gy) (hE0 : ∀ (gy : nt_T), Qz (.inr gy) → nt_G p l e (nt_rm 3) s m args below meth c w A 0 0 Q 3 39 [(0, .ref (nt_a w 0))] [] gy) (h : nt_R (jMo_next_26 g) Qz) : nt_G p l e (nt_rm 3) s m args below meth c w A 0 0 Q 3 26 [(0, .ref (nt_a w 0))] [] g := by
  unfold jMo_next_26 at h
  refine nt_aload_n X dX9_next_26 rfl 0 rfl ?_
  refine nt_dup X dX9_next_27 rfl ?_
  refine nt_get X 0 inX9 (nt_lM hw (Nat.le_of_ble_eq_true rfl)) (nt_m0 hw) rfl (j := 27) (by decide) wd_649 (v := .int (g 0 27)) rfl dX9_next_28 ?_
  refine nt_iconst X dX9_next_31 nt_ci_1 ?_
  refine nt_iadd X dX9_next_32 ?_
  refine nt_put X 0 inX9 (nt_lM hw (Nat.le_of_ble_eq_true rfl)) (nt_m0 hw) rfl (j := 27) (by decide) wd_649 tyX9 tyX9_ok nmX9 rfl (ty := .int) rfl rfl rfl (fun _ => Nat.le_of_ble_eq_true rfl) (fun _ => rfl) dX9_next_33 ?_
  obtain ⟨g3, eg3, h⟩ := nt_R_lt h
  refine nt_geq eg3 ?_
  refine nt_goto X 0 dX9_next_36 (by decide) ?_
  refine nt_sub [0] rfl ?_
  have h := nt_R_some h
  exact hI g3 h
def bMo_next_0 (g : nt_T) : Option ((nt_T) ⊕ ((nt_T))) :=
  nt_b1 (fMo_byteAt (g 0 27) g) fun r1 => (if r1 = (32 : Int32) then
    (jMo_next_26 g)
  else
    (nt_b1 (fMo_byteAt (g 0 27) g) fun r4 => (if r4 = (10 : Int32) then
    (jMo_next_26 g)
  else
    (some (.inr g)))))
set_option maxRecDepth 100000 in
set_option maxHeartbeats 4000000 in
theorem tbMo_next_0 {p : Program} {l : Launch} {e : Env} {s : State} {m : MethodId} {args : Array Value} {below : List Frame} {meth : Method} {c : Code} {w : nt_w} {A : Nat → Prop} (hw : nt_isM w) {Q : State → Prop} (X : nt_X cX9_next 3 RX9 none w A p s m args meth c)  {Qx : ((nt_T)) → Prop} (hE0 : ∀ (gy : nt_T), Qx gy → nt_G p l e (nt_rm 3) s m args below meth c w A 0 0 Q 3 39 [(0, .ref (nt_a w 0))] [] gy) : ∀ (n : Nat) (g : nt_T), nt_R (nt_it (fun z => bMo_next_0 z) n g) Qx → nt_G p l e (nt_rm 3) s m args below meth c w A 0 0 Q 3 0 [(0, .ref (nt_a w 0))] [] g := by
  intro n
  induction n with
  | zero =>
    intro g h
    exact nt_R_none h
  | succ n ih =>
    intro g h
    have h : nt_R (bMo_next_0 g) (nt_Qz (fun z => bMo_next_0 z) n Qx) := nt_R_it h
    have hI : ∀ (gy : nt_T), nt_Qz (fun z => bMo_next_0 z) n Qx (.inl gy) → nt_G p l e (nt_rm 3) s m args below meth c w A 0 0 Q 3 0 [(0, .ref (nt_a w 0))] [] gy := fun  gy q => ih  gy q
    have hE0 : ∀ (gy : nt_T), nt_Qz (fun z => bMo_next_0 z) n Qx (.inr gy) → nt_G p l e (nt_rm 3) s m args below meth c w A 0 0 Q 3 39 [(0, .ref (nt_a w 0))] [] gy := hE0
    generalize nt_Qz (fun z => bMo_next_0 z) n Qx = Qz at h hI hE0
    unfold bMo_next_0 at h
    refine nt_aload_n X dX9_next_0 rfl 0 rfl ?_
    refine nt_aload_n X dX9_next_1 rfl 0 rfl ?_
    refine nt_get X 0 inX9 (nt_lM hw (Nat.le_of_ble_eq_true rfl)) (nt_m0 hw) rfl (j := 27) (by decide) wd_649 (v := .int (g 0 27)) rfl dX9_next_2 ?_
    obtain ⟨r1, er1, h⟩ := nt_R_b1 h
    refine nt_cVi X (As := [.int (g 0 27)]) 0 (nt_lM hw (Nat.le_of_ble_eq_true rfl)) (nt_m0 hw) rfl (cMo_byteAt hw er1) wd_798 wd_796 wd_797 wd_1084 wd_16 rfl hd_X9_byteAt ⟨Nat.le_of_ble_eq_true rfl, Nat.le_of_ble_eq_true rfl⟩ ⟨Nat.le_refl 0, Nat.le_refl 0⟩ (Nat.le_of_ble_eq_true rfl) rfl dX9_next_5 ?_
    refine nt_bipush X dX9_next_8 nt_cb_32 ?_
    obtain ⟨ht, hf⟩ := nt_R_if h
    refine nt_icmp_eq X 26 dX9_next_10 (by decide) (fun q2 => ?_) (fun q2 => ?_)
    · have h := ht q2
      exact tjMo_next_26 hw X g hI hE0 h
    · have h := hf q2
      refine nt_aload_n X dX9_next_13 rfl 0 rfl ?_
      refine nt_aload_n X dX9_next_14 rfl 0 rfl ?_
      refine nt_get X 0 inX9 (nt_lM hw (Nat.le_of_ble_eq_true rfl)) (nt_m0 hw) rfl (j := 27) (by decide) wd_649 (v := .int (g 0 27)) rfl dX9_next_15 ?_
      obtain ⟨r4, er4, h⟩ := nt_R_b1 h
      refine nt_cVi X (As := [.int (g 0 27)]) 0 (nt_lM hw (Nat.le_of_ble_eq_true rfl)) (nt_m0 hw) rfl (cMo_byteAt hw er4) wd_798 wd_796 wd_797 wd_1084 wd_16 rfl hd_X9_byteAt ⟨Nat.le_of_ble_eq_true rfl, Nat.le_of_ble_eq_true rfl⟩ ⟨Nat.le_refl 0, Nat.le_refl 0⟩ (Nat.le_of_ble_eq_true rfl) rfl dX9_next_18 ?_
      refine nt_bipush X dX9_next_21 nt_cb_10 ?_
      obtain ⟨ht, hf⟩ := nt_R_if h
      refine nt_icmp_ne X 39 dX9_next_23 (by decide) (fun q5 => ?_) (fun q5 => ?_)
      · have h := hf q5
        refine nt_sub [0] rfl ?_
        have h := nt_R_some h
        exact hE0 g h
      · have h := ht q5
        exact tjMo_next_26 hw X g hI hE0 h
def jMo_next_300 (x1 : Int32) (g : nt_T) : Option (nt_T) :=
  nt_lt (nt_st g 0 28 (3 : Int32)) fun g16 => nt_lt (nt_stl g16 0 30 (Int32.toInt64 x1)) fun g17 => nt_lt (nt_st g17 0 27 ((g17 0 27) + (1 : Int32))) fun g18 => some g18
set_option maxRecDepth 100000 in
set_option maxHeartbeats 4000000 in
theorem tjMo_next_300 {p : Program} {l : Launch} {e : Env} {s : State} {m : MethodId} {args : Array Value} {below : List Frame} {meth : Method} {c : Code} {w : nt_w} {A : Nat → Prop} (hw : nt_isM w) {g2 : nt_T}  (X : nt_X cX9_next 3 RX9 none w A p s m args meth c) (x1 : Int32) (g : nt_T) (h : nt_R (jMo_next_300 x1 g) (fun z => z = g2)) : nt_G p l e (nt_rm 3) s m args below meth c w A 0 0 (nt_Qv w A below args s g2) 3 300 [(0, .ref (nt_a w 0)), (1, .int x1)] [] g := by
  unfold jMo_next_300 at h
  refine nt_aload_n X dX9_next_300 rfl 0 rfl ?_
  refine nt_iconst X dX9_next_301 nt_ci_3 ?_
  refine nt_put X 0 inX9 (nt_lM hw (Nat.le_of_ble_eq_true rfl)) (nt_m0 hw) rfl (j := 28) (by decide) wd_650 tyX9 tyX9_ok nmX9 rfl (ty := .int) rfl rfl rfl (fun _ => Nat.le_of_ble_eq_true rfl) (fun _ => rfl) dX9_next_302 ?_
  obtain ⟨g16, eg16, h⟩ := nt_R_lt h
  refine nt_geq eg16 ?_
  refine nt_aload_n X dX9_next_305 rfl 0 rfl ?_
  refine nt_iload_n X dX9_next_306 rfl 1 rfl ?_
  refine nt_i2l X dX9_next_307 rfl ?_
  refine nt_putL X 0 inX9 (nt_lM hw (Nat.le_of_ble_eq_true rfl)) (nt_m0 hw) rfl (j := 30) (by decide) wd_652 tyX9 tyX9_ok nmX9 rfl rfl 130 230 (fun _ => Nat.le_of_ble_eq_true rfl) (fun f => nt_mlong f _) dX9_next_308 ?_
  obtain ⟨g17, eg17, h⟩ := nt_R_lt h
  refine nt_geq eg17 ?_
  refine nt_aload_n X dX9_next_311 rfl 0 rfl ?_
  refine nt_dup X dX9_next_312 rfl ?_
  refine nt_get X 0 inX9 (nt_lM hw (Nat.le_of_ble_eq_true rfl)) (nt_m0 hw) rfl (j := 27) (by decide) wd_649 (v := .int (g17 0 27)) rfl dX9_next_313 ?_
  refine nt_iconst X dX9_next_316 nt_ci_1 ?_
  refine nt_iadd X dX9_next_317 ?_
  refine nt_put X 0 inX9 (nt_lM hw (Nat.le_of_ble_eq_true rfl)) (nt_m0 hw) rfl (j := 27) (by decide) wd_649 tyX9 tyX9_ok nmX9 rfl (ty := .int) rfl rfl rfl (fun _ => Nat.le_of_ble_eq_true rfl) (fun _ => rfl) dX9_next_318 ?_
  obtain ⟨g18, eg18, h⟩ := nt_R_lt h
  refine nt_geq eg18 ?_
  have h := nt_R_some h
  exact nt_vret X dX9_next_321 h
def jMo_next_216 (x2 : Int32) (s0 : Int64) (g : nt_T) : Option ((Int32 × nt_T) ⊕ ((Int32 × nt_T))) :=
  nt_lt (nt_stl g 0 30 s0) fun g32 => nt_lt (x2 + (1 : Int32)) fun v33 => nt_lt (nt_st g32 0 27 ((g32 0 27) + (1 : Int32))) fun g34 => some (.inl (v33, g34))
set_option maxRecDepth 100000 in
set_option maxHeartbeats 4000000 in
theorem tjMo_next_216 {p : Program} {l : Launch} {e : Env} {s : State} {m : MethodId} {args : Array Value} {below : List Frame} {meth : Method} {c : Code} {w : nt_w} {A : Nat → Prop} (hw : nt_isM w) {Q : State → Prop} (X : nt_X cX9_next 3 RX9 none w A p s m args meth c) (x2 : Int32) (s0 : Int64) (g : nt_T) {Qz : (Int32 × nt_T) ⊕ ((Int32 × nt_T)) → Prop} (hI : ∀ (y2 : Int32) (gy : nt_T), Qz (.inl (y2, gy)) → nt_G p l e (nt_rm 3) s m args below meth c w A 0 0 Q 3 160 [(0, .ref (nt_a w 0)), (2, .int y2)] [] gy) (hE0 : ∀ (y2 : Int32) (gy : nt_T), Qz (.inr (y2, gy)) → nt_G p l e (nt_rm 3) s m args below meth c w A 0 0 Q 3 235 [(0, .ref (nt_a w 0)), (2, .int y2)] [] gy) (h : nt_R (jMo_next_216 x2 s0 g) Qz) : nt_G p l e (nt_rm 3) s m args below meth c w A 0 0 Q 3 216 [(0, .ref (nt_a w 0)), (2, .int x2)] [.long s0, .ref (nt_a w 0)] g := by
  unfold jMo_next_216 at h
  refine nt_putL X 0 inX9 (nt_lM hw (Nat.le_of_ble_eq_true rfl)) (nt_m0 hw) rfl (j := 30) (by decide) wd_652 tyX9 tyX9_ok nmX9 rfl rfl 130 230 (fun _ => Nat.le_of_ble_eq_true rfl) (fun f => nt_mlong f _) dX9_next_216 ?_
  obtain ⟨g32, eg32, h⟩ := nt_R_lt h
  refine nt_geq eg32 ?_
  obtain ⟨v33, ev33, h⟩ := nt_R_lt h
  refine nt_iinc X v33 [(2, .int v33), (0, .ref (nt_a w 0))] dX9_next_219 1 rfl (by rw [nt_ci_1]; exact ev33) (by decide) rfl ?_
  refine nt_aload_n X dX9_next_222 rfl 1 rfl ?_
  refine nt_dup X dX9_next_223 rfl ?_
  refine nt_get X 0 inX9 (nt_lM hw (Nat.le_of_ble_eq_true rfl)) (nt_m0 hw) rfl (j := 27) (by decide) wd_649 (v := .int (g32 0 27)) rfl dX9_next_224 ?_
  refine nt_iconst X dX9_next_227 nt_ci_1 ?_
  refine nt_iadd X dX9_next_228 ?_
  refine nt_put X 0 inX9 (nt_lM hw (Nat.le_of_ble_eq_true rfl)) (nt_m0 hw) rfl (j := 27) (by decide) wd_649 tyX9 tyX9_ok nmX9 rfl (ty := .int) rfl rfl rfl (fun _ => Nat.le_of_ble_eq_true rfl) (fun _ => rfl) dX9_next_229 ?_
  obtain ⟨g34, eg34, h⟩ := nt_R_lt h
  refine nt_geq eg34 ?_
  refine nt_goto X 160 dX9_next_232 (by decide) ?_
  refine nt_sub [1, 0] rfl ?_
  have h := nt_R_some h
  exact hI v33 g34 h
def bMo_next_160 (x2 : Int32) (g : nt_T) : Option ((Int32 × nt_T) ⊕ ((Int32 × nt_T))) :=
  nt_b1 (fMo_byteAt (g 0 27) g) fun r28 => nt_b1 (fMo_in (Int32.toInt64 r28) (48 : Int64) (57 : Int64) g) fun r29 => (if r29 = 0 then
    (some (.inr (x2, g)))
  else
    ((if (4 : Int32) ≤ x2 then
    (jMo_next_216 x2 (nt_mk (g 0 130) (g 0 230)) g)
  else
    (nt_b1 (fMo_byteAt (g 0 27) g) fun r35 => jMo_next_216 x2 ((((10 : Int64) * (nt_mk (g 0 130) (g 0 230))) + (Int32.toInt64 r35)) - (48 : Int64)) g))))
set_option maxRecDepth 100000 in
set_option maxHeartbeats 4000000 in
theorem tbMo_next_160 {p : Program} {l : Launch} {e : Env} {s : State} {m : MethodId} {args : Array Value} {below : List Frame} {meth : Method} {c : Code} {w : nt_w} {A : Nat → Prop} (hw : nt_isM w) {Q : State → Prop} (X : nt_X cX9_next 3 RX9 none w A p s m args meth c)  {Qx : ((Int32 × nt_T)) → Prop} (hE0 : ∀ (y2 : Int32) (gy : nt_T), Qx (y2, gy) → nt_G p l e (nt_rm 3) s m args below meth c w A 0 0 Q 3 235 [(0, .ref (nt_a w 0)), (2, .int y2)] [] gy) : ∀ (n : Nat) (x2 : Int32) (g : nt_T), nt_R (nt_it (fun z => bMo_next_160 z.1 z.2) n (x2, g)) Qx → nt_G p l e (nt_rm 3) s m args below meth c w A 0 0 Q 3 160 [(0, .ref (nt_a w 0)), (2, .int x2)] [] g := by
  intro n
  induction n with
  | zero =>
    intro x2 g h
    exact nt_R_none h
  | succ n ih =>
    intro x2 g h
    have h : nt_R (bMo_next_160 x2 g) (nt_Qz (fun z => bMo_next_160 z.1 z.2) n Qx) := nt_R_it h
    have hI : ∀ (y2 : Int32) (gy : nt_T), nt_Qz (fun z => bMo_next_160 z.1 z.2) n Qx (.inl (y2, gy)) → nt_G p l e (nt_rm 3) s m args below meth c w A 0 0 Q 3 160 [(0, .ref (nt_a w 0)), (2, .int y2)] [] gy := fun y2 gy q => ih y2 gy q
    have hE0 : ∀ (y2 : Int32) (gy : nt_T), nt_Qz (fun z => bMo_next_160 z.1 z.2) n Qx (.inr (y2, gy)) → nt_G p l e (nt_rm 3) s m args below meth c w A 0 0 Q 3 235 [(0, .ref (nt_a w 0)), (2, .int y2)] [] gy := hE0
    generalize nt_Qz (fun z => bMo_next_160 z.1 z.2) n Qx = Qz at h hI hE0
    unfold bMo_next_160 at h
    refine nt_aload_n X dX9_next_160 rfl 0 rfl ?_
    refine nt_aload_n X dX9_next_161 rfl 0 rfl ?_
    refine nt_get X 0 inX9 (nt_lM hw (Nat.le_of_ble_eq_true rfl)) (nt_m0 hw) rfl (j := 27) (by decide) wd_649 (v := .int (g 0 27)) rfl dX9_next_162 ?_
    obtain ⟨r28, er28, h⟩ := nt_R_b1 h
    refine nt_cVi X (As := [.int (g 0 27)]) 0 (nt_lM hw (Nat.le_of_ble_eq_true rfl)) (nt_m0 hw) rfl (cMo_byteAt hw er28) wd_798 wd_796 wd_797 wd_1084 wd_16 rfl hd_X9_byteAt ⟨Nat.le_of_ble_eq_true rfl, Nat.le_of_ble_eq_true rfl⟩ ⟨Nat.le_refl 0, Nat.le_refl 0⟩ (Nat.le_of_ble_eq_true rfl) rfl dX9_next_165 ?_
    refine nt_i2l X dX9_next_168 rfl ?_
    refine nt_ldc2 X wd_801 dX9_next_169 ?_
    refine nt_ldc2 X wd_802 dX9_next_172 ?_
    obtain ⟨r29, er29, h⟩ := nt_R_b1 h
    refine nt_cSi X (As := [.long (Int32.toInt64 r28), .long (48 : Int64), .long (57 : Int64)]) (cMo_in hw er29) wd_732 wd_730 wd_731 wd_16 hd_X9_in ⟨Nat.le_of_ble_eq_true rfl, Nat.le_of_ble_eq_true rfl⟩ ⟨Nat.le_refl 0, Nat.le_refl 0⟩ (Nat.le_of_ble_eq_true rfl) rfl dX9_next_175 ?_
    obtain ⟨ht, hf⟩ := nt_R_if h
    refine nt_if_eq X 235 dX9_next_178 (by decide) (fun q30 => ?_) (fun q30 => ?_)
    · have h := ht q30
      refine nt_sub [0, 1] rfl ?_
      have h := nt_R_some h
      exact hE0 x2 g h
    · have h := hf q30
      refine nt_aload_n X dX9_next_181 rfl 0 rfl ?_
      refine nt_iload_n X dX9_next_182 rfl 1 rfl ?_
      refine nt_iconst X dX9_next_183 nt_ci_4 ?_
      obtain ⟨ht, hf⟩ := nt_R_if h
      refine nt_icmp_ge X 212 dX9_next_184 (by decide) (fun q31 => ?_) (fun q31 => ?_)
      · have h := ht q31
        refine nt_aload_n X dX9_next_212 rfl 0 rfl ?_
        refine nt_get X 0 inX9 (nt_lM hw (Nat.le_of_ble_eq_true rfl)) (nt_m0 hw) rfl (j := 30) (by decide) wd_652 (v := .long (nt_mk (g 0 130) (g 0 230))) rfl dX9_next_213 ?_
        exact tjMo_next_216 hw X x2 (nt_mk (g 0 130) (g 0 230)) g hI hE0 h
      · have h := hf q31
        refine nt_ldc2 X wd_803 dX9_next_187 ?_
        refine nt_aload_n X dX9_next_190 rfl 0 rfl ?_
        refine nt_get X 0 inX9 (nt_lM hw (Nat.le_of_ble_eq_true rfl)) (nt_m0 hw) rfl (j := 30) (by decide) wd_652 (v := .long (nt_mk (g 0 130) (g 0 230))) rfl dX9_next_191 ?_
        refine nt_lmul X dX9_next_194 ?_
        refine nt_aload_n X dX9_next_195 rfl 0 rfl ?_
        refine nt_aload_n X dX9_next_196 rfl 0 rfl ?_
        refine nt_get X 0 inX9 (nt_lM hw (Nat.le_of_ble_eq_true rfl)) (nt_m0 hw) rfl (j := 27) (by decide) wd_649 (v := .int (g 0 27)) rfl dX9_next_197 ?_
        obtain ⟨r35, er35, h⟩ := nt_R_b1 h
        refine nt_cVi X (As := [.int (g 0 27)]) 0 (nt_lM hw (Nat.le_of_ble_eq_true rfl)) (nt_m0 hw) rfl (cMo_byteAt hw er35) wd_798 wd_796 wd_797 wd_1084 wd_16 rfl hd_X9_byteAt ⟨Nat.le_of_ble_eq_true rfl, Nat.le_of_ble_eq_true rfl⟩ ⟨Nat.le_refl 0, Nat.le_refl 0⟩ (Nat.le_of_ble_eq_true rfl) rfl dX9_next_200 ?_
        refine nt_i2l X dX9_next_203 rfl ?_
        refine nt_ladd X dX9_next_204 ?_
        refine nt_ldc2 X wd_801 dX9_next_205 ?_
        refine nt_lsub X dX9_next_208 ?_
        refine nt_goto X 216 dX9_next_209 (by decide) ?_
        exact tjMo_next_216 hw X x2 ((((10 : Int64) * (nt_mk (g 0 130) (g 0 230))) + (Int32.toInt64 r35)) - (48 : Int64)) g hI hE0 h
def jMo_next_246 (s0 : Int32) (g : nt_T) : Option (nt_T) :=
  nt_lt (nt_st g 0 28 s0) fun g39 => some g39
set_option maxRecDepth 100000 in
set_option maxHeartbeats 4000000 in
theorem tjMo_next_246 {p : Program} {l : Launch} {e : Env} {s : State} {m : MethodId} {args : Array Value} {below : List Frame} {meth : Method} {c : Code} {w : nt_w} {A : Nat → Prop} (hw : nt_isM w) {g2 : nt_T}  (X : nt_X cX9_next 3 RX9 none w A p s m args meth c) (s0 : Int32) (g : nt_T) (h : nt_R (jMo_next_246 s0 g) (fun z => z = g2)) : nt_G p l e (nt_rm 3) s m args below meth c w A 0 0 (nt_Qv w A below args s g2) 3 246 [(0, .ref (nt_a w 0))] [.int s0, .ref (nt_a w 0)] g := by
  unfold jMo_next_246 at h
  refine nt_put X 0 inX9 (nt_lM hw (Nat.le_of_ble_eq_true rfl)) (nt_m0 hw) rfl (j := 28) (by decide) wd_650 tyX9 tyX9_ok nmX9 rfl (ty := .int) rfl rfl rfl (fun _ => Nat.le_of_ble_eq_true rfl) (fun _ => rfl) dX9_next_246 ?_
  obtain ⟨g39, eg39, h⟩ := nt_R_lt h
  refine nt_geq eg39 ?_
  refine nt_goto X 321 dX9_next_249 (by decide) ?_
  have h := nt_R_some h
  exact nt_vret X dX9_next_321 h
def bMo_next_100 (g : nt_T) : Option ((nt_T) ⊕ ((nt_T))) :=
  nt_b1 (fMo_byteAt (g 0 27) g) fun r42 => nt_b1 (fMo_in (Int32.toInt64 r42) (97 : Int64) (122 : Int64) g) fun r43 => (if r43 = 0 then
    (some (.inr g))
  else
    (nt_lt (nt_st g 0 27 ((g 0 27) + (1 : Int32))) fun g45 => some (.inl g45)))
set_option maxRecDepth 100000 in
set_option maxHeartbeats 4000000 in
theorem tbMo_next_100 {p : Program} {l : Launch} {e : Env} {s : State} {m : MethodId} {args : Array Value} {below : List Frame} {meth : Method} {c : Code} {w : nt_w} {A : Nat → Prop} (hw : nt_isM w) {Q : State → Prop} (X : nt_X cX9_next 3 RX9 none w A p s m args meth c)  {Qx : ((nt_T)) → Prop} (hE0 : ∀ (gy : nt_T), Qx gy → nt_G p l e (nt_rm 3) s m args below meth c w A 0 0 Q 3 321 [(0, .ref (nt_a w 0))] [] gy) : ∀ (n : Nat) (g : nt_T), nt_R (nt_it (fun z => bMo_next_100 z) n g) Qx → nt_G p l e (nt_rm 3) s m args below meth c w A 0 0 Q 3 100 [(0, .ref (nt_a w 0))] [] g := by
  intro n
  induction n with
  | zero =>
    intro g h
    exact nt_R_none h
  | succ n ih =>
    intro g h
    have h : nt_R (bMo_next_100 g) (nt_Qz (fun z => bMo_next_100 z) n Qx) := nt_R_it h
    have hI : ∀ (gy : nt_T), nt_Qz (fun z => bMo_next_100 z) n Qx (.inl gy) → nt_G p l e (nt_rm 3) s m args below meth c w A 0 0 Q 3 100 [(0, .ref (nt_a w 0))] [] gy := fun  gy q => ih  gy q
    have hE0 : ∀ (gy : nt_T), nt_Qz (fun z => bMo_next_100 z) n Qx (.inr gy) → nt_G p l e (nt_rm 3) s m args below meth c w A 0 0 Q 3 321 [(0, .ref (nt_a w 0))] [] gy := hE0
    generalize nt_Qz (fun z => bMo_next_100 z) n Qx = Qz at h hI hE0
    unfold bMo_next_100 at h
    refine nt_aload_n X dX9_next_100 rfl 0 rfl ?_
    refine nt_aload_n X dX9_next_101 rfl 0 rfl ?_
    refine nt_get X 0 inX9 (nt_lM hw (Nat.le_of_ble_eq_true rfl)) (nt_m0 hw) rfl (j := 27) (by decide) wd_649 (v := .int (g 0 27)) rfl dX9_next_102 ?_
    obtain ⟨r42, er42, h⟩ := nt_R_b1 h
    refine nt_cVi X (As := [.int (g 0 27)]) 0 (nt_lM hw (Nat.le_of_ble_eq_true rfl)) (nt_m0 hw) rfl (cMo_byteAt hw er42) wd_798 wd_796 wd_797 wd_1084 wd_16 rfl hd_X9_byteAt ⟨Nat.le_of_ble_eq_true rfl, Nat.le_of_ble_eq_true rfl⟩ ⟨Nat.le_refl 0, Nat.le_refl 0⟩ (Nat.le_of_ble_eq_true rfl) rfl dX9_next_105 ?_
    refine nt_i2l X dX9_next_108 rfl ?_
    refine nt_ldc2 X wd_799 dX9_next_109 ?_
    refine nt_ldc2 X wd_800 dX9_next_112 ?_
    obtain ⟨r43, er43, h⟩ := nt_R_b1 h
    refine nt_cSi X (As := [.long (Int32.toInt64 r42), .long (97 : Int64), .long (122 : Int64)]) (cMo_in hw er43) wd_732 wd_730 wd_731 wd_16 hd_X9_in ⟨Nat.le_of_ble_eq_true rfl, Nat.le_of_ble_eq_true rfl⟩ ⟨Nat.le_refl 0, Nat.le_refl 0⟩ (Nat.le_of_ble_eq_true rfl) rfl dX9_next_115 ?_
    obtain ⟨ht, hf⟩ := nt_R_if h
    refine nt_if_eq X 321 dX9_next_118 (by decide) (fun q44 => ?_) (fun q44 => ?_)
    · have h := ht q44
      refine nt_sub [0] rfl ?_
      have h := nt_R_some h
      exact hE0 g h
    · have h := hf q44
      refine nt_aload_n X dX9_next_121 rfl 0 rfl ?_
      refine nt_dup X dX9_next_122 rfl ?_
      refine nt_get X 0 inX9 (nt_lM hw (Nat.le_of_ble_eq_true rfl)) (nt_m0 hw) rfl (j := 27) (by decide) wd_649 (v := .int (g 0 27)) rfl dX9_next_123 ?_
      refine nt_iconst X dX9_next_126 nt_ci_1 ?_
      refine nt_iadd X dX9_next_127 ?_
      refine nt_put X 0 inX9 (nt_lM hw (Nat.le_of_ble_eq_true rfl)) (nt_m0 hw) rfl (j := 27) (by decide) wd_649 tyX9 tyX9_ok nmX9 rfl (ty := .int) rfl rfl rfl (fun _ => Nat.le_of_ble_eq_true rfl) (fun _ => rfl) dX9_next_128 ?_
      obtain ⟨g45, eg45, h⟩ := nt_R_lt h
      refine nt_geq eg45 ?_
      refine nt_goto X 100 dX9_next_131 (by decide) ?_
      refine nt_sub [0] rfl ?_
      have h := nt_R_some h
      exact hI g45 h
def fMo_next (g : nt_T) : Option (nt_T) :=
  (nt_b1 (nt_it (fun z => bMo_next_0 z) nt_fu g) fun g6 => nt_lt (nt_st g6 0 29 (g6 0 27)) fun g7 => nt_b1 (fMo_byteAt (g7 0 27) g7) fun r8 => nt_lt (nt_st g7 0 28 (4 : Int32)) fun g9 => (if 0 ≤ r8 then
    (nt_b1 (fMo_in (Int32.toInt64 r8) (97 : Int64) (122 : Int64) g9) fun r11 => (if r11 = 0 then
    (nt_b1 (fMo_in (Int32.toInt64 r8) (48 : Int64) (57 : Int64) g9) fun r13 => (if r13 = 0 then
    ((if r8 = (40 : Int32) then
    (jMo_next_300 r8 g9)
  else
    ((if r8 = (41 : Int32) then
    (jMo_next_300 r8 g9)
  else
    ((if r8 = (59 : Int32) then
    (jMo_next_300 r8 g9)
  else
    ((if r8 = (43 : Int32) then
    (jMo_next_300 r8 g9)
  else
    ((if r8 = (45 : Int32) then
    (jMo_next_300 r8 g9)
  else
    ((if r8 = (42 : Int32) then
    (jMo_next_300 r8 g9)
  else
    ((if r8 = (60 : Int32) then
    (jMo_next_300 r8 g9)
  else
    ((if r8 = (61 : Int32) then
    (jMo_next_300 r8 g9)
  else
    (some g9)))))))))))))))))
  else
    (nt_lt (nt_st g9 0 28 (2 : Int32)) fun g26 => nt_lt (nt_stl g26 0 30 (0 : Int64)) fun g27 => (nt_b1 (nt_it (fun z => bMo_next_160 z.1 z.2) nt_fu ((0 : Int32), g27)) fun z40 => match z40 with
  | (v36, g37) => (if v36 ≤ (4 : Int32) then
    (jMo_next_246 (2 : Int32) g37)
  else
    (jMo_next_246 (4 : Int32) g37))))))
  else
    (nt_lt (nt_st g9 0 28 (1 : Int32)) fun g41 => (nt_b1 (nt_it (fun z => bMo_next_100 z) nt_fu g41) fun g46 => some g46))))
  else
    (nt_lt (nt_st g9 0 28 (0 : Int32)) fun g48 => nt_lt (nt_st g48 0 29 (g48 0 26)) fun g49 => some g49)))
set_option maxRecDepth 100000 in
set_option maxHeartbeats 4000000 in
theorem cMo_next {l : Launch} {w : nt_w} (hw : nt_isM w) {g : nt_T} {g2 : nt_T} (hf : fMo_next g = some g2) : nt_Mv l w yX9_next cX9_next 3 none 3 [.ref (nt_a w 0)] g g2 := by
  refine nt_Mv_of (by decide) (Nat.le_of_ble_eq_true rfl) (fun p e s m args below meth c A X => ?_)
  have X : nt_X cX9_next 3 RX9 none w A p s m args meth c := X
  have h : nt_R (fMo_next g) (fun z => z = g2) := ⟨_, hf, rfl⟩
  unfold fMo_next at h
  show nt_G p l e (nt_rm 3) s m args below meth c w A 0 0 (nt_Qv w A below args s g2) 3 0 [(0, .ref (nt_a w 0))] [] g
  obtain ⟨z50, hz50, h⟩ := nt_R_b1 h
  refine tbMo_next_0 hw X  (Qx := fun z => z = z50) (fun g6 hq => ?_) nt_fu g ⟨_, hz50, rfl⟩
  subst hq
  refine nt_aload_n X dX9_next_39 rfl 0 rfl ?_
  refine nt_aload_n X dX9_next_40 rfl 0 rfl ?_
  refine nt_get X 0 inX9 (nt_lM hw (Nat.le_of_ble_eq_true rfl)) (nt_m0 hw) rfl (j := 27) (by decide) wd_649 (v := .int (g6 0 27)) rfl dX9_next_41 ?_
  refine nt_put X 0 inX9 (nt_lM hw (Nat.le_of_ble_eq_true rfl)) (nt_m0 hw) rfl (j := 29) (by decide) wd_651 tyX9 tyX9_ok nmX9 rfl (ty := .int) rfl rfl rfl (fun _ => Nat.le_of_ble_eq_true rfl) (fun _ => rfl) dX9_next_44 ?_
  obtain ⟨g7, eg7, h⟩ := nt_R_lt h
  refine nt_geq eg7 ?_
  refine nt_aload_n X dX9_next_47 rfl 0 rfl ?_
  refine nt_aload_n X dX9_next_48 rfl 0 rfl ?_
  refine nt_get X 0 inX9 (nt_lM hw (Nat.le_of_ble_eq_true rfl)) (nt_m0 hw) rfl (j := 27) (by decide) wd_649 (v := .int (g7 0 27)) rfl dX9_next_49 ?_
  obtain ⟨r8, er8, h⟩ := nt_R_b1 h
  refine nt_cVi X (As := [.int (g7 0 27)]) 0 (nt_lM hw (Nat.le_of_ble_eq_true rfl)) (nt_m0 hw) rfl (cMo_byteAt hw er8) wd_798 wd_796 wd_797 wd_1084 wd_16 rfl hd_X9_byteAt ⟨Nat.le_of_ble_eq_true rfl, Nat.le_of_ble_eq_true rfl⟩ ⟨Nat.le_refl 0, Nat.le_refl 0⟩ (Nat.le_of_ble_eq_true rfl) rfl dX9_next_52 ?_
  refine nt_istore_n X [(1, .int r8), (0, .ref (nt_a w 0))] dX9_next_55 rfl (by decide) rfl ?_
  refine nt_aload_n X dX9_next_56 rfl 1 rfl ?_
  refine nt_iconst X dX9_next_57 nt_ci_4 ?_
  refine nt_put X 0 inX9 (nt_lM hw (Nat.le_of_ble_eq_true rfl)) (nt_m0 hw) rfl (j := 28) (by decide) wd_650 tyX9 tyX9_ok nmX9 rfl (ty := .int) rfl rfl rfl (fun _ => Nat.le_of_ble_eq_true rfl) (fun _ => rfl) dX9_next_58 ?_
  obtain ⟨g9, eg9, h⟩ := nt_R_lt h
  refine nt_geq eg9 ?_
  refine nt_iload_n X dX9_next_61 rfl 0 rfl ?_
  obtain ⟨ht, hf⟩ := nt_R_if h
  refine nt_if_ge X 81 dX9_next_62 (by decide) (fun q10 => ?_) (fun q10 => ?_)
  · have h := ht q10
    refine nt_iload_n X dX9_next_81 rfl 0 rfl ?_
    refine nt_i2l X dX9_next_82 rfl ?_
    refine nt_ldc2 X wd_799 dX9_next_83 ?_
    refine nt_ldc2 X wd_800 dX9_next_86 ?_
    obtain ⟨r11, er11, h⟩ := nt_R_b1 h
    refine nt_cSi X (As := [.long (Int32.toInt64 r8), .long (97 : Int64), .long (122 : Int64)]) (cMo_in hw er11) wd_732 wd_730 wd_731 wd_16 hd_X9_in ⟨Nat.le_of_ble_eq_true rfl, Nat.le_of_ble_eq_true rfl⟩ ⟨Nat.le_refl 0, Nat.le_refl 0⟩ (Nat.le_of_ble_eq_true rfl) rfl dX9_next_89 ?_
    obtain ⟨ht, hf⟩ := nt_R_if h
    refine nt_if_eq X 134 dX9_next_92 (by decide) (fun q12 => ?_) (fun q12 => ?_)
    · have h := ht q12
      refine nt_iload_n X dX9_next_134 rfl 0 rfl ?_
      refine nt_i2l X dX9_next_135 rfl ?_
      refine nt_ldc2 X wd_801 dX9_next_136 ?_
      refine nt_ldc2 X wd_802 dX9_next_139 ?_
      obtain ⟨r13, er13, h⟩ := nt_R_b1 h
      refine nt_cSi X (As := [.long (Int32.toInt64 r8), .long (48 : Int64), .long (57 : Int64)]) (cMo_in hw er13) wd_732 wd_730 wd_731 wd_16 hd_X9_in ⟨Nat.le_of_ble_eq_true rfl, Nat.le_of_ble_eq_true rfl⟩ ⟨Nat.le_refl 0, Nat.le_refl 0⟩ (Nat.le_of_ble_eq_true rfl) rfl dX9_next_142 ?_
      obtain ⟨ht, hf⟩ := nt_R_if h
      refine nt_if_eq X 252 dX9_next_145 (by decide) (fun q14 => ?_) (fun q14 => ?_)
      · have h := ht q14
        refine nt_iload_n X dX9_next_252 rfl 0 rfl ?_
        refine nt_bipush X dX9_next_253 nt_cb_40 ?_
        obtain ⟨ht, hf⟩ := nt_R_if h
        refine nt_icmp_eq X 300 dX9_next_255 (by decide) (fun q15 => ?_) (fun q15 => ?_)
        · have h := ht q15
          refine nt_sub [1, 0] rfl ?_
          exact tjMo_next_300 hw X r8 g9 h
        · have h := hf q15
          refine nt_iload_n X dX9_next_258 rfl 0 rfl ?_
          refine nt_bipush X dX9_next_259 nt_cb_41 ?_
          obtain ⟨ht, hf⟩ := nt_R_if h
          refine nt_icmp_eq X 300 dX9_next_261 (by decide) (fun q19 => ?_) (fun q19 => ?_)
          · have h := ht q19
            refine nt_sub [1, 0] rfl ?_
            exact tjMo_next_300 hw X r8 g9 h
          · have h := hf q19
            refine nt_iload_n X dX9_next_264 rfl 0 rfl ?_
            refine nt_bipush X dX9_next_265 nt_cb_59 ?_
            obtain ⟨ht, hf⟩ := nt_R_if h
            refine nt_icmp_eq X 300 dX9_next_267 (by decide) (fun q20 => ?_) (fun q20 => ?_)
            · have h := ht q20
              refine nt_sub [1, 0] rfl ?_
              exact tjMo_next_300 hw X r8 g9 h
            · have h := hf q20
              refine nt_iload_n X dX9_next_270 rfl 0 rfl ?_
              refine nt_bipush X dX9_next_271 nt_cb_43 ?_
              obtain ⟨ht, hf⟩ := nt_R_if h
              refine nt_icmp_eq X 300 dX9_next_273 (by decide) (fun q21 => ?_) (fun q21 => ?_)
              · have h := ht q21
                refine nt_sub [1, 0] rfl ?_
                exact tjMo_next_300 hw X r8 g9 h
              · have h := hf q21
                refine nt_iload_n X dX9_next_276 rfl 0 rfl ?_
                refine nt_bipush X dX9_next_277 nt_cb_45 ?_
                obtain ⟨ht, hf⟩ := nt_R_if h
                refine nt_icmp_eq X 300 dX9_next_279 (by decide) (fun q22 => ?_) (fun q22 => ?_)
                · have h := ht q22
                  refine nt_sub [1, 0] rfl ?_
                  exact tjMo_next_300 hw X r8 g9 h
                · have h := hf q22
                  refine nt_iload_n X dX9_next_282 rfl 0 rfl ?_
                  refine nt_bipush X dX9_next_283 nt_cb_42 ?_
                  obtain ⟨ht, hf⟩ := nt_R_if h
                  refine nt_icmp_eq X 300 dX9_next_285 (by decide) (fun q23 => ?_) (fun q23 => ?_)
                  · have h := ht q23
                    refine nt_sub [1, 0] rfl ?_
                    exact tjMo_next_300 hw X r8 g9 h
                  · have h := hf q23
                    refine nt_iload_n X dX9_next_288 rfl 0 rfl ?_
                    refine nt_bipush X dX9_next_289 nt_cb_60 ?_
                    obtain ⟨ht, hf⟩ := nt_R_if h
                    refine nt_icmp_eq X 300 dX9_next_291 (by decide) (fun q24 => ?_) (fun q24 => ?_)
                    · have h := ht q24
                      refine nt_sub [1, 0] rfl ?_
                      exact tjMo_next_300 hw X r8 g9 h
                    · have h := hf q24
                      refine nt_iload_n X dX9_next_294 rfl 0 rfl ?_
                      refine nt_bipush X dX9_next_295 nt_cb_61 ?_
                      obtain ⟨ht, hf⟩ := nt_R_if h
                      refine nt_icmp_ne X 321 dX9_next_297 (by decide) (fun q25 => ?_) (fun q25 => ?_)
                      · have h := hf q25
                        have h := nt_R_some h
                        exact nt_vret X dX9_next_321 h
                      · have h := ht q25
                        refine nt_sub [1, 0] rfl ?_
                        exact tjMo_next_300 hw X r8 g9 h
      · have h := hf q14
        refine nt_aload_n X dX9_next_148 rfl 1 rfl ?_
        refine nt_iconst X dX9_next_149 nt_ci_2 ?_
        refine nt_put X 0 inX9 (nt_lM hw (Nat.le_of_ble_eq_true rfl)) (nt_m0 hw) rfl (j := 28) (by decide) wd_650 tyX9 tyX9_ok nmX9 rfl (ty := .int) rfl rfl rfl (fun _ => Nat.le_of_ble_eq_true rfl) (fun _ => rfl) dX9_next_150 ?_
        obtain ⟨g26, eg26, h⟩ := nt_R_lt h
        refine nt_geq eg26 ?_
        refine nt_aload_n X dX9_next_153 rfl 1 rfl ?_
        refine nt_lconst X dX9_next_154 nt_cl_0 ?_
        refine nt_putL X 0 inX9 (nt_lM hw (Nat.le_of_ble_eq_true rfl)) (nt_m0 hw) rfl (j := 30) (by decide) wd_652 tyX9 tyX9_ok nmX9 rfl rfl 130 230 (fun _ => Nat.le_of_ble_eq_true rfl) (fun f => nt_mlong f _) dX9_next_155 ?_
        obtain ⟨g27, eg27, h⟩ := nt_R_lt h
        refine nt_geq eg27 ?_
        refine nt_iconst X dX9_next_158 nt_ci_0 ?_
        refine nt_istore_n X [(2, .int (0 : Int32)), (1, .int r8), (0, .ref (nt_a w 0))] dX9_next_159 rfl (by decide) rfl ?_
        obtain ⟨z40, hz40, h⟩ := nt_R_b1 h
        refine nt_sub [2, 0] rfl ?_
        refine tbMo_next_160 hw X  (Qx := fun z => z = z40) (fun v36 g37 hq => ?_) nt_fu (0 : Int32) g27 ⟨_, hz40, rfl⟩
        subst hq
        refine nt_aload_n X dX9_next_235 rfl 0 rfl ?_
        refine nt_iload_n X dX9_next_236 rfl 1 rfl ?_
        refine nt_iconst X dX9_next_237 nt_ci_4 ?_
        obtain ⟨ht, hf⟩ := nt_R_if h
        refine nt_icmp_le X 245 dX9_next_238 (by decide) (fun q38 => ?_) (fun q38 => ?_)
        · have h := ht q38
          refine nt_iconst X dX9_next_245 nt_ci_2 ?_
          refine nt_sub [0] rfl ?_
          exact tjMo_next_246 hw X (2 : Int32) g37 h
        · have h := hf q38
          refine nt_iconst X dX9_next_241 nt_ci_4 ?_
          refine nt_goto X 246 dX9_next_242 (by decide) ?_
          refine nt_sub [0] rfl ?_
          exact tjMo_next_246 hw X (4 : Int32) g37 h
    · have h := hf q12
      refine nt_aload_n X dX9_next_95 rfl 1 rfl ?_
      refine nt_iconst X dX9_next_96 nt_ci_1 ?_
      refine nt_put X 0 inX9 (nt_lM hw (Nat.le_of_ble_eq_true rfl)) (nt_m0 hw) rfl (j := 28) (by decide) wd_650 tyX9 tyX9_ok nmX9 rfl (ty := .int) rfl rfl rfl (fun _ => Nat.le_of_ble_eq_true rfl) (fun _ => rfl) dX9_next_97 ?_
      obtain ⟨g41, eg41, h⟩ := nt_R_lt h
      refine nt_geq eg41 ?_
      obtain ⟨z47, hz47, h⟩ := nt_R_b1 h
      refine nt_sub [1] rfl ?_
      refine tbMo_next_100 hw X  (Qx := fun z => z = z47) (fun g46 hq => ?_) nt_fu g41 ⟨_, hz47, rfl⟩
      subst hq
      have h := nt_R_some h
      exact nt_vret X dX9_next_321 h
  · have h := hf q10
    refine nt_aload_n X dX9_next_65 rfl 1 rfl ?_
    refine nt_iconst X dX9_next_66 nt_ci_0 ?_
    refine nt_put X 0 inX9 (nt_lM hw (Nat.le_of_ble_eq_true rfl)) (nt_m0 hw) rfl (j := 28) (by decide) wd_650 tyX9 tyX9_ok nmX9 rfl (ty := .int) rfl rfl rfl (fun _ => Nat.le_of_ble_eq_true rfl) (fun _ => rfl) dX9_next_67 ?_
    obtain ⟨g48, eg48, h⟩ := nt_R_lt h
    refine nt_geq eg48 ?_
    refine nt_aload_n X dX9_next_70 rfl 1 rfl ?_
    refine nt_aload_n X dX9_next_71 rfl 1 rfl ?_
    refine nt_get X 0 inX9 (nt_lM hw (Nat.le_of_ble_eq_true rfl)) (nt_m0 hw) rfl (j := 26) (by decide) wd_648 (v := .int (g48 0 26)) rfl dX9_next_72 ?_
    refine nt_put X 0 inX9 (nt_lM hw (Nat.le_of_ble_eq_true rfl)) (nt_m0 hw) rfl (j := 29) (by decide) wd_651 tyX9 tyX9_ok nmX9 rfl (ty := .int) rfl rfl rfl (fun _ => Nat.le_of_ble_eq_true rfl) (fun _ => rfl) dX9_next_75 ?_
    obtain ⟨g49, eg49, h⟩ := nt_R_lt h
    refine nt_geq eg49 ?_
    refine nt_goto X 321 dX9_next_78 (by decide) ?_
    have h := nt_R_some h
    exact nt_vret X dX9_next_321 h
def fMo_fail (g : nt_T) : Option (nt_T) :=
  (if (g 0 32) = 0 then
    (nt_lt (nt_st g 0 32 (1 : Int32)) fun g2 => nt_lt (nt_st g2 0 33 (g2 0 29)) fun g3 => some g3)
  else
    (some g))
set_option maxRecDepth 100000 in
set_option maxHeartbeats 4000000 in
theorem cMo_fail {l : Launch} {w : nt_w} (hw : nt_isM w) {g : nt_T} {g2 : nt_T} (hf : fMo_fail g = some g2) : nt_Mv l w yX9_fail cX9_fail 1 none 1 [.ref (nt_a w 0)] g g2 := by
  refine nt_Mv_of (by decide) (Nat.le_of_ble_eq_true rfl) (fun p e s m args below meth c A X => ?_)
  have X : nt_X cX9_fail 1 RX9 none w A p s m args meth c := X
  have h : nt_R (fMo_fail g) (fun z => z = g2) := ⟨_, hf, rfl⟩
  unfold fMo_fail at h
  show nt_G p l e (nt_rm 1) s m args below meth c w A 0 0 (nt_Qv w A below args s g2) 1 0 [(0, .ref (nt_a w 0))] [] g
  refine nt_aload_n X dX9_fail_0 rfl 0 rfl ?_
  refine nt_get X 0 inX9 (nt_lM hw (Nat.le_of_ble_eq_true rfl)) (nt_m0 hw) rfl (j := 32) (by decide) wd_654 (v := .int (g 0 32)) rfl dX9_fail_1 ?_
  obtain ⟨ht, hf⟩ := nt_R_if h
  refine nt_if_ne X 20 dX9_fail_4 (by decide) (fun q1 => ?_) (fun q1 => ?_)
  · have h := hf q1
    have h := nt_R_some h
    exact nt_vret X dX9_fail_20 h
  · have h := ht q1
    refine nt_aload_n X dX9_fail_7 rfl 0 rfl ?_
    refine nt_iconst X dX9_fail_8 nt_ci_1 ?_
    refine nt_put X 0 inX9 (nt_lM hw (Nat.le_of_ble_eq_true rfl)) (nt_m0 hw) rfl (j := 32) (by decide) wd_654 tyX9 tyX9_ok nmX9 rfl (ty := .boolean) rfl rfl rfl (fun _ => Nat.le_of_ble_eq_true rfl) (fun _ => rfl) dX9_fail_9 ?_
    obtain ⟨g2, eg2, h⟩ := nt_R_lt h
    refine nt_geq eg2 ?_
    refine nt_aload_n X dX9_fail_12 rfl 0 rfl ?_
    refine nt_aload_n X dX9_fail_13 rfl 0 rfl ?_
    refine nt_get X 0 inX9 (nt_lM hw (Nat.le_of_ble_eq_true rfl)) (nt_m0 hw) rfl (j := 29) (by decide) wd_651 (v := .int (g2 0 29)) rfl dX9_fail_14 ?_
    refine nt_put X 0 inX9 (nt_lM hw (Nat.le_of_ble_eq_true rfl)) (nt_m0 hw) rfl (j := 33) (by decide) wd_655 tyX9 tyX9_ok nmX9 rfl (ty := .int) rfl rfl rfl (fun _ => Nat.le_of_ble_eq_true rfl) (fun _ => rfl) dX9_fail_17 ?_
    obtain ⟨g3, eg3, h⟩ := nt_R_lt h
    refine nt_geq eg3 ?_
    have h := nt_R_some h
    exact nt_vret X dX9_fail_20 h
def fMo_isLetter (x1 : Int32) (x2 : Int32) (g : nt_T) : Option (Int32) :=
  (if (g 0 27) ≤ ((g 0 29) + x1) then
    ((if x2 = 0 then
    (some (1 : Int32))
  else
    (some (0 : Int32))))
  else
    (nt_b1 (fMo_byteAt ((g 0 29) + x1) g) fun r3 => (if r3 = x2 then
    (some (1 : Int32))
  else
    (some (0 : Int32)))))
set_option maxRecDepth 100000 in
set_option maxHeartbeats 4000000 in
theorem cMo_isLetter {l : Launch} {w : nt_w} (hw : nt_isM w) {x1 : Int32} {x2 : Int32} {g : nt_T} {r : Int32} (hf : fMo_isLetter x1 x2 g = some r) : nt_Mi l w yX9_isLetter cX9_isLetter 3 (some .boolean) 3 [.ref (nt_a w 0), .int x1, .int x2] g r g := by
  refine nt_Mi_of (by decide) (Nat.le_of_ble_eq_true rfl) (fun p e s m args below meth c A X => ?_)
  have X : nt_X cX9_isLetter 3 RX9 (some .boolean) w A p s m args meth c := X
  have hg : g = g := rfl
  have h : nt_R (fMo_isLetter x1 x2 g) (fun z => z = r) := ⟨_, hf, rfl⟩
  unfold fMo_isLetter at h
  show nt_G p l e (nt_rm 3) s m args below meth c w A 0 0 (nt_Qi w A below args s r g) 3 0 [(0, .ref (nt_a w 0)), (1, .int x1), (2, .int x2)] [] g
  refine nt_aload_n X dX9_isLetter_0 rfl 0 rfl ?_
  refine nt_get X 0 inX9 (nt_lM hw (Nat.le_of_ble_eq_true rfl)) (nt_m0 hw) rfl (j := 29) (by decide) wd_651 (v := .int (g 0 29)) rfl dX9_isLetter_1 ?_
  refine nt_iload_n X dX9_isLetter_4 rfl 1 rfl ?_
  refine nt_iadd X dX9_isLetter_5 ?_
  refine nt_aload_n X dX9_isLetter_6 rfl 0 rfl ?_
  refine nt_get X 0 inX9 (nt_lM hw (Nat.le_of_ble_eq_true rfl)) (nt_m0 hw) rfl (j := 27) (by decide) wd_649 (v := .int (g 0 27)) rfl dX9_isLetter_7 ?_
  obtain ⟨ht, hf⟩ := nt_R_if h
  refine nt_icmp_ge X 35 dX9_isLetter_10 (by decide) (fun q1 => ?_) (fun q1 => ?_)
  · have h := ht q1
    refine nt_iload_n X dX9_isLetter_35 rfl 2 rfl ?_
    obtain ⟨ht, hf⟩ := nt_R_if h
    refine nt_if_ne X 43 dX9_isLetter_36 (by decide) (fun q2 => ?_) (fun q2 => ?_)
    · have h := hf q2
      refine nt_iconst X dX9_isLetter_43 nt_ci_0 ?_
      have h := nt_R_some h
      exact nt_zret X rfl dX9_isLetter_44 (nt_pe h hg)
    · have h := ht q2
      refine nt_iconst X dX9_isLetter_39 nt_ci_1 ?_
      refine nt_goto X 44 dX9_isLetter_40 (by decide) ?_
      have h := nt_R_some h
      exact nt_zret X rfl dX9_isLetter_44 (nt_pe h hg)
  · have h := hf q1
    refine nt_aload_n X dX9_isLetter_13 rfl 0 rfl ?_
    refine nt_aload_n X dX9_isLetter_14 rfl 0 rfl ?_
    refine nt_get X 0 inX9 (nt_lM hw (Nat.le_of_ble_eq_true rfl)) (nt_m0 hw) rfl (j := 29) (by decide) wd_651 (v := .int (g 0 29)) rfl dX9_isLetter_15 ?_
    refine nt_iload_n X dX9_isLetter_18 rfl 1 rfl ?_
    refine nt_iadd X dX9_isLetter_19 ?_
    obtain ⟨r3, er3, h⟩ := nt_R_b1 h
    refine nt_cVi X (As := [.int ((g 0 29) + x1)]) 0 (nt_lM hw (Nat.le_of_ble_eq_true rfl)) (nt_m0 hw) rfl (cMo_byteAt hw er3) wd_798 wd_796 wd_797 wd_1084 wd_16 rfl hd_X9_byteAt ⟨Nat.le_of_ble_eq_true rfl, Nat.le_of_ble_eq_true rfl⟩ ⟨Nat.le_refl 0, Nat.le_refl 0⟩ (Nat.le_of_ble_eq_true rfl) rfl dX9_isLetter_20 ?_
    refine nt_iload_n X dX9_isLetter_23 rfl 2 rfl ?_
    obtain ⟨ht, hf⟩ := nt_R_if h
    refine nt_icmp_ne X 31 dX9_isLetter_24 (by decide) (fun q4 => ?_) (fun q4 => ?_)
    · have h := hf q4
      refine nt_iconst X dX9_isLetter_31 nt_ci_0 ?_
      refine nt_goto X 44 dX9_isLetter_32 (by decide) ?_
      have h := nt_R_some h
      exact nt_zret X rfl dX9_isLetter_44 (nt_pe h hg)
    · have h := ht q4
      refine nt_iconst X dX9_isLetter_27 nt_ci_1 ?_
      refine nt_goto X 44 dX9_isLetter_28 (by decide) ?_
      have h := nt_R_some h
      exact nt_zret X rfl dX9_isLetter_44 (nt_pe h hg)
def fMo_isWord (x1 : Int32) (x2 : Int32) (x3 : Int32) (x4 : Int32) (x5 : Int32) (x6 : Int32) (x7 : Int32) (x8 : Int32) (g : nt_T) : Option (Int32) :=
  (if (g 0 32) = 0 then
    ((if (g 0 28) = (1 : Int32) then
    ((if ((g 0 29) + (8 : Int32)) < (g 0 27) then
    (some (0 : Int32))
  else
    (nt_b1 (fMo_isLetter (0 : Int32) x1 g) fun r4 => (if r4 = 0 then
    (some (0 : Int32))
  else
    (nt_b1 (fMo_isLetter (1 : Int32) x2 g) fun r6 => (if r6 = 0 then
    (some (0 : Int32))
  else
    (nt_b1 (fMo_isLetter (2 : Int32) x3 g) fun r8 => (if r8 = 0 then
    (some (0 : Int32))
  else
    (nt_b1 (fMo_isLetter (3 : Int32) x4 g) fun r10 => (if r10 = 0 then
    (some (0 : Int32))
  else
    (nt_b1 (fMo_isLetter (4 : Int32) x5 g) fun r12 => (if r12 = 0 then
    (some (0 : Int32))
  else
    (nt_b1 (fMo_isLetter (5 : Int32) x6 g) fun r14 => (if r14 = 0 then
    (some (0 : Int32))
  else
    (nt_b1 (fMo_isLetter (6 : Int32) x7 g) fun r16 => (if r16 = 0 then
    (some (0 : Int32))
  else
    (nt_b1 (fMo_isLetter (7 : Int32) x8 g) fun r18 => (if r18 = 0 then
    (some (0 : Int32))
  else
    (some (1 : Int32))))))))))))))))))))
  else
    (some (0 : Int32))))
  else
    (some (0 : Int32)))
set_option maxRecDepth 100000 in
set_option maxHeartbeats 4000000 in
theorem cMo_isWord {l : Launch} {w : nt_w} (hw : nt_isM w) {x1 : Int32} {x2 : Int32} {x3 : Int32} {x4 : Int32} {x5 : Int32} {x6 : Int32} {x7 : Int32} {x8 : Int32} {g : nt_T} {r : Int32} (hf : fMo_isWord x1 x2 x3 x4 x5 x6 x7 x8 g = some r) : nt_Mi l w yX9_isWord cX9_isWord 9 (some .boolean) 5 [.ref (nt_a w 0), .int x1, .int x2, .int x3, .int x4, .int x5, .int x6, .int x7, .int x8] g r g := by
  refine nt_Mi_of (by decide) (Nat.le_of_ble_eq_true rfl) (fun p e s m args below meth c A X => ?_)
  have X : nt_X cX9_isWord 9 RX9 (some .boolean) w A p s m args meth c := X
  have hg : g = g := rfl
  have h : nt_R (fMo_isWord x1 x2 x3 x4 x5 x6 x7 x8 g) (fun z => z = r) := ⟨_, hf, rfl⟩
  unfold fMo_isWord at h
  show nt_G p l e (nt_rm 5) s m args below meth c w A 0 0 (nt_Qi w A below args s r g) 9 0 [(0, .ref (nt_a w 0)), (1, .int x1), (2, .int x2), (3, .int x3), (4, .int x4), (5, .int x5), (6, .int x6), (7, .int x7), (8, .int x8)] [] g
  refine nt_aload_n X dX9_isWord_0 rfl 0 rfl ?_
  refine nt_get X 0 inX9 (nt_lM hw (Nat.le_of_ble_eq_true rfl)) (nt_m0 hw) rfl (j := 32) (by decide) wd_654 (v := .int (g 0 32)) rfl dX9_isWord_1 ?_
  obtain ⟨ht, hf⟩ := nt_R_if h
  refine nt_if_ne X 112 dX9_isWord_4 (by decide) (fun q1 => ?_) (fun q1 => ?_)
  · have h := hf q1
    refine nt_iconst X dX9_isWord_112 nt_ci_0 ?_
    have h := nt_R_some h
    exact nt_zret X rfl dX9_isWord_113 (nt_pe h hg)
  · have h := ht q1
    refine nt_aload_n X dX9_isWord_7 rfl 0 rfl ?_
    refine nt_get X 0 inX9 (nt_lM hw (Nat.le_of_ble_eq_true rfl)) (nt_m0 hw) rfl (j := 28) (by decide) wd_650 (v := .int (g 0 28)) rfl dX9_isWord_8 ?_
    refine nt_iconst X dX9_isWord_11 nt_ci_1 ?_
    obtain ⟨ht, hf⟩ := nt_R_if h
    refine nt_icmp_ne X 112 dX9_isWord_12 (by decide) (fun q2 => ?_) (fun q2 => ?_)
    · have h := hf q2
      refine nt_iconst X dX9_isWord_112 nt_ci_0 ?_
      have h := nt_R_some h
      exact nt_zret X rfl dX9_isWord_113 (nt_pe h hg)
    · have h := ht q2
      refine nt_aload_n X dX9_isWord_15 rfl 0 rfl ?_
      refine nt_get X 0 inX9 (nt_lM hw (Nat.le_of_ble_eq_true rfl)) (nt_m0 hw) rfl (j := 27) (by decide) wd_649 (v := .int (g 0 27)) rfl dX9_isWord_16 ?_
      refine nt_aload_n X dX9_isWord_19 rfl 0 rfl ?_
      refine nt_get X 0 inX9 (nt_lM hw (Nat.le_of_ble_eq_true rfl)) (nt_m0 hw) rfl (j := 29) (by decide) wd_651 (v := .int (g 0 29)) rfl dX9_isWord_20 ?_
      refine nt_bipush X dX9_isWord_23 nt_cb_8 ?_
      refine nt_iadd X dX9_isWord_25 ?_
      obtain ⟨ht, hf⟩ := nt_R_if h
      refine nt_icmp_gt X 112 dX9_isWord_26 (by decide) (fun q3 => ?_) (fun q3 => ?_)
      · have h := ht q3
        refine nt_iconst X dX9_isWord_112 nt_ci_0 ?_
        have h := nt_R_some h
        exact nt_zret X rfl dX9_isWord_113 (nt_pe h hg)
      · have h := hf q3
        refine nt_aload_n X dX9_isWord_29 rfl 0 rfl ?_
        refine nt_iconst X dX9_isWord_30 nt_ci_0 ?_
        refine nt_iload_n X dX9_isWord_31 rfl 1 rfl ?_
        obtain ⟨r4, er4, h⟩ := nt_R_b1 h
        refine nt_cVi X (As := [.int (0 : Int32), .int x1]) 0 (nt_lM hw (Nat.le_of_ble_eq_true rfl)) (nt_m0 hw) rfl (cMo_isLetter hw er4) wd_809 wd_807 wd_808 wd_1086 wd_16 rfl hd_X9_isLetter ⟨Nat.le_of_ble_eq_true rfl, Nat.le_of_ble_eq_true rfl⟩ ⟨Nat.le_refl 0, Nat.le_refl 0⟩ (Nat.le_of_ble_eq_true rfl) rfl dX9_isWord_32 ?_
        obtain ⟨ht, hf⟩ := nt_R_if h
        refine nt_if_eq X 112 dX9_isWord_35 (by decide) (fun q5 => ?_) (fun q5 => ?_)
        · have h := ht q5
          refine nt_iconst X dX9_isWord_112 nt_ci_0 ?_
          have h := nt_R_some h
          exact nt_zret X rfl dX9_isWord_113 (nt_pe h hg)
        · have h := hf q5
          refine nt_aload_n X dX9_isWord_38 rfl 0 rfl ?_
          refine nt_iconst X dX9_isWord_39 nt_ci_1 ?_
          refine nt_iload_n X dX9_isWord_40 rfl 2 rfl ?_
          obtain ⟨r6, er6, h⟩ := nt_R_b1 h
          refine nt_cVi X (As := [.int (1 : Int32), .int x2]) 0 (nt_lM hw (Nat.le_of_ble_eq_true rfl)) (nt_m0 hw) rfl (cMo_isLetter hw er6) wd_809 wd_807 wd_808 wd_1086 wd_16 rfl hd_X9_isLetter ⟨Nat.le_of_ble_eq_true rfl, Nat.le_of_ble_eq_true rfl⟩ ⟨Nat.le_refl 0, Nat.le_refl 0⟩ (Nat.le_of_ble_eq_true rfl) rfl dX9_isWord_41 ?_
          obtain ⟨ht, hf⟩ := nt_R_if h
          refine nt_if_eq X 112 dX9_isWord_44 (by decide) (fun q7 => ?_) (fun q7 => ?_)
          · have h := ht q7
            refine nt_iconst X dX9_isWord_112 nt_ci_0 ?_
            have h := nt_R_some h
            exact nt_zret X rfl dX9_isWord_113 (nt_pe h hg)
          · have h := hf q7
            refine nt_aload_n X dX9_isWord_47 rfl 0 rfl ?_
            refine nt_iconst X dX9_isWord_48 nt_ci_2 ?_
            refine nt_iload_n X dX9_isWord_49 rfl 3 rfl ?_
            obtain ⟨r8, er8, h⟩ := nt_R_b1 h
            refine nt_cVi X (As := [.int (2 : Int32), .int x3]) 0 (nt_lM hw (Nat.le_of_ble_eq_true rfl)) (nt_m0 hw) rfl (cMo_isLetter hw er8) wd_809 wd_807 wd_808 wd_1086 wd_16 rfl hd_X9_isLetter ⟨Nat.le_of_ble_eq_true rfl, Nat.le_of_ble_eq_true rfl⟩ ⟨Nat.le_refl 0, Nat.le_refl 0⟩ (Nat.le_of_ble_eq_true rfl) rfl dX9_isWord_50 ?_
            obtain ⟨ht, hf⟩ := nt_R_if h
            refine nt_if_eq X 112 dX9_isWord_53 (by decide) (fun q9 => ?_) (fun q9 => ?_)
            · have h := ht q9
              refine nt_iconst X dX9_isWord_112 nt_ci_0 ?_
              have h := nt_R_some h
              exact nt_zret X rfl dX9_isWord_113 (nt_pe h hg)
            · have h := hf q9
              refine nt_aload_n X dX9_isWord_56 rfl 0 rfl ?_
              refine nt_iconst X dX9_isWord_57 nt_ci_3 ?_
              refine nt_iload X dX9_isWord_58 4 rfl ?_
              obtain ⟨r10, er10, h⟩ := nt_R_b1 h
              refine nt_cVi X (As := [.int (3 : Int32), .int x4]) 0 (nt_lM hw (Nat.le_of_ble_eq_true rfl)) (nt_m0 hw) rfl (cMo_isLetter hw er10) wd_809 wd_807 wd_808 wd_1086 wd_16 rfl hd_X9_isLetter ⟨Nat.le_of_ble_eq_true rfl, Nat.le_of_ble_eq_true rfl⟩ ⟨Nat.le_refl 0, Nat.le_refl 0⟩ (Nat.le_of_ble_eq_true rfl) rfl dX9_isWord_60 ?_
              obtain ⟨ht, hf⟩ := nt_R_if h
              refine nt_if_eq X 112 dX9_isWord_63 (by decide) (fun q11 => ?_) (fun q11 => ?_)
              · have h := ht q11
                refine nt_iconst X dX9_isWord_112 nt_ci_0 ?_
                have h := nt_R_some h
                exact nt_zret X rfl dX9_isWord_113 (nt_pe h hg)
              · have h := hf q11
                refine nt_aload_n X dX9_isWord_66 rfl 0 rfl ?_
                refine nt_iconst X dX9_isWord_67 nt_ci_4 ?_
                refine nt_iload X dX9_isWord_68 5 rfl ?_
                obtain ⟨r12, er12, h⟩ := nt_R_b1 h
                refine nt_cVi X (As := [.int (4 : Int32), .int x5]) 0 (nt_lM hw (Nat.le_of_ble_eq_true rfl)) (nt_m0 hw) rfl (cMo_isLetter hw er12) wd_809 wd_807 wd_808 wd_1086 wd_16 rfl hd_X9_isLetter ⟨Nat.le_of_ble_eq_true rfl, Nat.le_of_ble_eq_true rfl⟩ ⟨Nat.le_refl 0, Nat.le_refl 0⟩ (Nat.le_of_ble_eq_true rfl) rfl dX9_isWord_70 ?_
                obtain ⟨ht, hf⟩ := nt_R_if h
                refine nt_if_eq X 112 dX9_isWord_73 (by decide) (fun q13 => ?_) (fun q13 => ?_)
                · have h := ht q13
                  refine nt_iconst X dX9_isWord_112 nt_ci_0 ?_
                  have h := nt_R_some h
                  exact nt_zret X rfl dX9_isWord_113 (nt_pe h hg)
                · have h := hf q13
                  refine nt_aload_n X dX9_isWord_76 rfl 0 rfl ?_
                  refine nt_iconst X dX9_isWord_77 nt_ci_5 ?_
                  refine nt_iload X dX9_isWord_78 6 rfl ?_
                  obtain ⟨r14, er14, h⟩ := nt_R_b1 h
                  refine nt_cVi X (As := [.int (5 : Int32), .int x6]) 0 (nt_lM hw (Nat.le_of_ble_eq_true rfl)) (nt_m0 hw) rfl (cMo_isLetter hw er14) wd_809 wd_807 wd_808 wd_1086 wd_16 rfl hd_X9_isLetter ⟨Nat.le_of_ble_eq_true rfl, Nat.le_of_ble_eq_true rfl⟩ ⟨Nat.le_refl 0, Nat.le_refl 0⟩ (Nat.le_of_ble_eq_true rfl) rfl dX9_isWord_80 ?_
                  obtain ⟨ht, hf⟩ := nt_R_if h
                  refine nt_if_eq X 112 dX9_isWord_83 (by decide) (fun q15 => ?_) (fun q15 => ?_)
                  · have h := ht q15
                    refine nt_iconst X dX9_isWord_112 nt_ci_0 ?_
                    have h := nt_R_some h
                    exact nt_zret X rfl dX9_isWord_113 (nt_pe h hg)
                  · have h := hf q15
                    refine nt_aload_n X dX9_isWord_86 rfl 0 rfl ?_
                    refine nt_bipush X dX9_isWord_87 nt_cb_6 ?_
                    refine nt_iload X dX9_isWord_89 7 rfl ?_
                    obtain ⟨r16, er16, h⟩ := nt_R_b1 h
                    refine nt_cVi X (As := [.int (6 : Int32), .int x7]) 0 (nt_lM hw (Nat.le_of_ble_eq_true rfl)) (nt_m0 hw) rfl (cMo_isLetter hw er16) wd_809 wd_807 wd_808 wd_1086 wd_16 rfl hd_X9_isLetter ⟨Nat.le_of_ble_eq_true rfl, Nat.le_of_ble_eq_true rfl⟩ ⟨Nat.le_refl 0, Nat.le_refl 0⟩ (Nat.le_of_ble_eq_true rfl) rfl dX9_isWord_91 ?_
                    obtain ⟨ht, hf⟩ := nt_R_if h
                    refine nt_if_eq X 112 dX9_isWord_94 (by decide) (fun q17 => ?_) (fun q17 => ?_)
                    · have h := ht q17
                      refine nt_iconst X dX9_isWord_112 nt_ci_0 ?_
                      have h := nt_R_some h
                      exact nt_zret X rfl dX9_isWord_113 (nt_pe h hg)
                    · have h := hf q17
                      refine nt_aload_n X dX9_isWord_97 rfl 0 rfl ?_
                      refine nt_bipush X dX9_isWord_98 nt_cb_7 ?_
                      refine nt_iload X dX9_isWord_100 8 rfl ?_
                      obtain ⟨r18, er18, h⟩ := nt_R_b1 h
                      refine nt_cVi X (As := [.int (7 : Int32), .int x8]) 0 (nt_lM hw (Nat.le_of_ble_eq_true rfl)) (nt_m0 hw) rfl (cMo_isLetter hw er18) wd_809 wd_807 wd_808 wd_1086 wd_16 rfl hd_X9_isLetter ⟨Nat.le_of_ble_eq_true rfl, Nat.le_of_ble_eq_true rfl⟩ ⟨Nat.le_refl 0, Nat.le_refl 0⟩ (Nat.le_of_ble_eq_true rfl) rfl dX9_isWord_102 ?_
                      obtain ⟨ht, hf⟩ := nt_R_if h
                      refine nt_if_eq X 112 dX9_isWord_105 (by decide) (fun q19 => ?_) (fun q19 => ?_)
                      · have h := ht q19
                        refine nt_iconst X dX9_isWord_112 nt_ci_0 ?_
                        have h := nt_R_some h
                        exact nt_zret X rfl dX9_isWord_113 (nt_pe h hg)
                      · have h := hf q19
                        refine nt_iconst X dX9_isWord_108 nt_ci_1 ?_
                        refine nt_goto X 113 dX9_isWord_109 (by decide) ?_
                        have h := nt_R_some h
                        exact nt_zret X rfl dX9_isWord_113 (nt_pe h hg)
def fMo_isSign (x1 : Int32) (g : nt_T) : Option (Int32) :=
  (if (g 0 32) = 0 then
    ((if (g 0 28) = (3 : Int32) then
    ((if (lg_cmp (nt_mk (g 0 130) (g 0 230)) (Int32.toInt64 x1)) = 0 then
    (some (1 : Int32))
  else
    (some (0 : Int32))))
  else
    (some (0 : Int32))))
  else
    (some (0 : Int32)))
set_option maxRecDepth 100000 in
set_option maxHeartbeats 4000000 in
theorem cMo_isSign {l : Launch} {w : nt_w} (hw : nt_isM w) {x1 : Int32} {g : nt_T} {r : Int32} (hf : fMo_isSign x1 g = some r) : nt_Mi l w yX9_isSign cX9_isSign 2 (some .boolean) 1 [.ref (nt_a w 0), .int x1] g r g := by
  refine nt_Mi_of (by decide) (Nat.le_of_ble_eq_true rfl) (fun p e s m args below meth c A X => ?_)
  have X : nt_X cX9_isSign 2 RX9 (some .boolean) w A p s m args meth c := X
  have hg : g = g := rfl
  have h : nt_R (fMo_isSign x1 g) (fun z => z = r) := ⟨_, hf, rfl⟩
  unfold fMo_isSign at h
  show nt_G p l e (nt_rm 1) s m args below meth c w A 0 0 (nt_Qi w A below args s r g) 2 0 [(0, .ref (nt_a w 0)), (1, .int x1)] [] g
  refine nt_aload_n X dX9_isSign_0 rfl 0 rfl ?_
  refine nt_get X 0 inX9 (nt_lM hw (Nat.le_of_ble_eq_true rfl)) (nt_m0 hw) rfl (j := 32) (by decide) wd_654 (v := .int (g 0 32)) rfl dX9_isSign_1 ?_
  obtain ⟨ht, hf⟩ := nt_R_if h
  refine nt_if_ne X 29 dX9_isSign_4 (by decide) (fun q1 => ?_) (fun q1 => ?_)
  · have h := hf q1
    refine nt_iconst X dX9_isSign_29 nt_ci_0 ?_
    have h := nt_R_some h
    exact nt_zret X rfl dX9_isSign_30 (nt_pe h hg)
  · have h := ht q1
    refine nt_aload_n X dX9_isSign_7 rfl 0 rfl ?_
    refine nt_get X 0 inX9 (nt_lM hw (Nat.le_of_ble_eq_true rfl)) (nt_m0 hw) rfl (j := 28) (by decide) wd_650 (v := .int (g 0 28)) rfl dX9_isSign_8 ?_
    refine nt_iconst X dX9_isSign_11 nt_ci_3 ?_
    obtain ⟨ht, hf⟩ := nt_R_if h
    refine nt_icmp_ne X 29 dX9_isSign_12 (by decide) (fun q2 => ?_) (fun q2 => ?_)
    · have h := hf q2
      refine nt_iconst X dX9_isSign_29 nt_ci_0 ?_
      have h := nt_R_some h
      exact nt_zret X rfl dX9_isSign_30 (nt_pe h hg)
    · have h := ht q2
      refine nt_aload_n X dX9_isSign_15 rfl 0 rfl ?_
      refine nt_get X 0 inX9 (nt_lM hw (Nat.le_of_ble_eq_true rfl)) (nt_m0 hw) rfl (j := 30) (by decide) wd_652 (v := .long (nt_mk (g 0 130) (g 0 230))) rfl dX9_isSign_16 ?_
      refine nt_iload_n X dX9_isSign_19 rfl 1 rfl ?_
      refine nt_i2l X dX9_isSign_20 rfl ?_
      refine nt_lcmp X dX9_isSign_21 ?_
      obtain ⟨ht, hf⟩ := nt_R_if h
      refine nt_if_ne X 29 dX9_isSign_22 (by decide) (fun q3 => ?_) (fun q3 => ?_)
      · have h := hf q3
        refine nt_iconst X dX9_isSign_29 nt_ci_0 ?_
        have h := nt_R_some h
        exact nt_zret X rfl dX9_isSign_30 (nt_pe h hg)
      · have h := ht q3
        refine nt_iconst X dX9_isSign_25 nt_ci_1 ?_
        refine nt_goto X 30 dX9_isSign_26 (by decide) ?_
        have h := nt_R_some h
        exact nt_zret X rfl dX9_isSign_30 (nt_pe h hg)
def fMo_opens (g : nt_T) : Option (Int32 × nt_T) :=
  (if (g 0 31) = (5 : Int32) then
    (nt_b1 (fMo_fail g) fun g4 => some ((0 : Int32), g4))
  else
    (nt_lt (nt_st g 0 31 ((g 0 31) + (1 : Int32))) fun g2 => nt_b1 (fMo_next g2) fun g3 => some ((1 : Int32), g3)))
set_option maxRecDepth 100000 in
set_option maxHeartbeats 4000000 in
theorem cMo_opens {l : Launch} {w : nt_w} (hw : nt_isM w) {g : nt_T} {r : Int32} {g2 : nt_T} (hf : fMo_opens g = some (r, g2)) : nt_Mi l w yX9_opens cX9_opens 1 (some .boolean) 5 [.ref (nt_a w 0)] g r g2 := by
  refine nt_Mi_of (by decide) (Nat.le_of_ble_eq_true rfl) (fun p e s m args below meth c A X => ?_)
  have X : nt_X cX9_opens 1 RX9 (some .boolean) w A p s m args meth c := X
  have h : nt_R (fMo_opens g) (fun z => z = (r, g2)) := ⟨_, hf, rfl⟩
  unfold fMo_opens at h
  show nt_G p l e (nt_rm 5) s m args below meth c w A 0 0 (nt_Qi w A below args s r g2) 1 0 [(0, .ref (nt_a w 0))] [] g
  refine nt_aload_n X dX9_opens_0 rfl 0 rfl ?_
  refine nt_get X 0 inX9 (nt_lM hw (Nat.le_of_ble_eq_true rfl)) (nt_m0 hw) rfl (j := 31) (by decide) wd_653 (v := .int (g 0 31)) rfl dX9_opens_1 ?_
  refine nt_iconst X dX9_opens_4 nt_ci_5 ?_
  obtain ⟨ht, hf⟩ := nt_R_if h
  refine nt_icmp_ne X 14 dX9_opens_5 (by decide) (fun q1 => ?_) (fun q1 => ?_)
  · have h := hf q1
    refine nt_aload_n X dX9_opens_14 rfl 0 rfl ?_
    refine nt_dup X dX9_opens_15 rfl ?_
    refine nt_get X 0 inX9 (nt_lM hw (Nat.le_of_ble_eq_true rfl)) (nt_m0 hw) rfl (j := 31) (by decide) wd_653 (v := .int (g 0 31)) rfl dX9_opens_16 ?_
    refine nt_iconst X dX9_opens_19 nt_ci_1 ?_
    refine nt_iadd X dX9_opens_20 ?_
    refine nt_put X 0 inX9 (nt_lM hw (Nat.le_of_ble_eq_true rfl)) (nt_m0 hw) rfl (j := 31) (by decide) wd_653 tyX9 tyX9_ok nmX9 rfl (ty := .int) rfl rfl rfl (fun _ => Nat.le_of_ble_eq_true rfl) (fun _ => rfl) dX9_opens_21 ?_
    obtain ⟨g2, eg2, h⟩ := nt_R_lt h
    refine nt_geq eg2 ?_
    refine nt_aload_n X dX9_opens_24 rfl 0 rfl ?_
    obtain ⟨g3, eg3, h⟩ := nt_R_b1 h
    refine nt_cVv X (As := []) 0 (nt_lM hw (Nat.le_of_ble_eq_true rfl)) (nt_m0 hw) rfl (cMo_next hw eg3) wd_795 wd_793 wd_794 wd_1083 wd_16 rfl hd_X9_next ⟨Nat.le_of_ble_eq_true rfl, Nat.le_of_ble_eq_true rfl⟩ ⟨Nat.le_refl 0, Nat.le_refl 0⟩ (Nat.le_of_ble_eq_true rfl) rfl dX9_opens_25 ?_
    refine nt_iconst X dX9_opens_28 nt_ci_1 ?_
    have h := nt_R_some h
    exact nt_zret X rfl dX9_opens_29 h
  · have h := ht q1
    refine nt_aload_n X dX9_opens_8 rfl 0 rfl ?_
    obtain ⟨g4, eg4, h⟩ := nt_R_b1 h
    refine nt_cVv X (As := []) 0 (nt_lM hw (Nat.le_of_ble_eq_true rfl)) (nt_m0 hw) rfl (cMo_fail hw eg4) wd_815 wd_813 wd_814 wd_1088 wd_16 rfl hd_X9_fail ⟨Nat.le_of_ble_eq_true rfl, Nat.le_of_ble_eq_true rfl⟩ ⟨Nat.le_refl 0, Nat.le_refl 0⟩ (Nat.le_of_ble_eq_true rfl) rfl dX9_opens_9 ?_
    refine nt_iconst X dX9_opens_12 nt_ci_0 ?_
    have h := nt_R_some h
    exact nt_zret X rfl dX9_opens_13 h
def fMo_name (g : nt_T) : Option (Int32 × nt_T) :=
  nt_b1 (fMo_isWord (97 : Int32) (103 : Int32) (101 : Int32) (0 : Int32) (0 : Int32) (0 : Int32) (0 : Int32) (0 : Int32) g) fun r1 => (if r1 = 0 then
    (nt_b1 (fMo_isWord (119 : Int32) (111 : Int32) (114 : Int32) (116 : Int32) (104 : Int32) (0 : Int32) (0 : Int32) (0 : Int32) g) fun r3 => (if r3 = 0 then
    (nt_b1 (fMo_isWord (104 : Int32) (101 : Int32) (97 : Int32) (114 : Int32) (100 : Int32) (0 : Int32) (0 : Int32) (0 : Int32) g) fun r5 => (if r5 = 0 then
    (nt_b1 (fMo_isWord (109 : Int32) (97 : Int32) (110 : Int32) (121 : Int32) (0 : Int32) (0 : Int32) (0 : Int32) (0 : Int32) g) fun r7 => (if r7 = 0 then
    (nt_b1 (fMo_isWord (110 : Int32) (105 : Int32) (103 : Int32) (104 : Int32) (116 : Int32) (0 : Int32) (0 : Int32) (0 : Int32) g) fun r9 => (if r9 = 0 then
    (nt_b1 (fMo_isWord (111 : Int32) (119 : Int32) (110 : Int32) (0 : Int32) (0 : Int32) (0 : Int32) (0 : Int32) (0 : Int32) g) fun r11 => (if r11 = 0 then
    (nt_b1 (fMo_fail g) fun g13 => some ((0 : Int32), g13))
  else
    (some ((g 0 24), g))))
  else
    (some ((g 0 23), g))))
  else
    (some ((g 0 22), g))))
  else
    (some ((g 0 21), g))))
  else
    (some ((g 0 20), g))))
  else
    (some ((g 0 19), g)))
set_option maxRecDepth 100000 in
set_option maxHeartbeats 4000000 in
theorem cMo_name {l : Launch} {w : nt_w} (hw : nt_isM w) {g : nt_T} {r : Int32} {g2 : nt_T} (hf : fMo_name g = some (r, g2)) : nt_Mi l w yX9_name cX9_name 1 (some .int) 7 [.ref (nt_a w 0)] g r g2 := by
  refine nt_Mi_of (by decide) (Nat.le_of_ble_eq_true rfl) (fun p e s m args below meth c A X => ?_)
  have X : nt_X cX9_name 1 RX9 (some .int) w A p s m args meth c := X
  have h : nt_R (fMo_name g) (fun z => z = (r, g2)) := ⟨_, hf, rfl⟩
  unfold fMo_name at h
  show nt_G p l e (nt_rm 7) s m args below meth c w A 0 0 (nt_Qi w A below args s r g2) 1 0 [(0, .ref (nt_a w 0))] [] g
  refine nt_aload_n X dX9_name_0 rfl 0 rfl ?_
  refine nt_bipush X dX9_name_1 nt_cb_97 ?_
  refine nt_bipush X dX9_name_3 nt_cb_103 ?_
  refine nt_bipush X dX9_name_5 nt_cb_101 ?_
  refine nt_iconst X dX9_name_7 nt_ci_0 ?_
  refine nt_iconst X dX9_name_8 nt_ci_0 ?_
  refine nt_iconst X dX9_name_9 nt_ci_0 ?_
  refine nt_iconst X dX9_name_10 nt_ci_0 ?_
  refine nt_iconst X dX9_name_11 nt_ci_0 ?_
  obtain ⟨r1, er1, h⟩ := nt_R_b1 h
  refine nt_cVi X (As := [.int (97 : Int32), .int (103 : Int32), .int (101 : Int32), .int (0 : Int32), .int (0 : Int32), .int (0 : Int32), .int (0 : Int32), .int (0 : Int32)]) 0 (nt_lM hw (Nat.le_of_ble_eq_true rfl)) (nt_m0 hw) rfl (cMo_isWord hw er1) wd_806 wd_804 wd_805 wd_1085 wd_16 rfl hd_X9_isWord ⟨Nat.le_of_ble_eq_true rfl, Nat.le_of_ble_eq_true rfl⟩ ⟨Nat.le_refl 0, Nat.le_refl 0⟩ (Nat.le_of_ble_eq_true rfl) rfl dX9_name_12 ?_
  obtain ⟨ht, hf⟩ := nt_R_if h
  refine nt_if_eq X 23 dX9_name_15 (by decide) (fun q2 => ?_) (fun q2 => ?_)
  · have h := ht q2
    refine nt_aload_n X dX9_name_23 rfl 0 rfl ?_
    refine nt_bipush X dX9_name_24 nt_cb_119 ?_
    refine nt_bipush X dX9_name_26 nt_cb_111 ?_
    refine nt_bipush X dX9_name_28 nt_cb_114 ?_
    refine nt_bipush X dX9_name_30 nt_cb_116 ?_
    refine nt_bipush X dX9_name_32 nt_cb_104 ?_
    refine nt_iconst X dX9_name_34 nt_ci_0 ?_
    refine nt_iconst X dX9_name_35 nt_ci_0 ?_
    refine nt_iconst X dX9_name_36 nt_ci_0 ?_
    obtain ⟨r3, er3, h⟩ := nt_R_b1 h
    refine nt_cVi X (As := [.int (119 : Int32), .int (111 : Int32), .int (114 : Int32), .int (116 : Int32), .int (104 : Int32), .int (0 : Int32), .int (0 : Int32), .int (0 : Int32)]) 0 (nt_lM hw (Nat.le_of_ble_eq_true rfl)) (nt_m0 hw) rfl (cMo_isWord hw er3) wd_806 wd_804 wd_805 wd_1085 wd_16 rfl hd_X9_isWord ⟨Nat.le_of_ble_eq_true rfl, Nat.le_of_ble_eq_true rfl⟩ ⟨Nat.le_refl 0, Nat.le_refl 0⟩ (Nat.le_of_ble_eq_true rfl) rfl dX9_name_37 ?_
    obtain ⟨ht, hf⟩ := nt_R_if h
    refine nt_if_eq X 48 dX9_name_40 (by decide) (fun q4 => ?_) (fun q4 => ?_)
    · have h := ht q4
      refine nt_aload_n X dX9_name_48 rfl 0 rfl ?_
      refine nt_bipush X dX9_name_49 nt_cb_104 ?_
      refine nt_bipush X dX9_name_51 nt_cb_101 ?_
      refine nt_bipush X dX9_name_53 nt_cb_97 ?_
      refine nt_bipush X dX9_name_55 nt_cb_114 ?_
      refine nt_bipush X dX9_name_57 nt_cb_100 ?_
      refine nt_iconst X dX9_name_59 nt_ci_0 ?_
      refine nt_iconst X dX9_name_60 nt_ci_0 ?_
      refine nt_iconst X dX9_name_61 nt_ci_0 ?_
      obtain ⟨r5, er5, h⟩ := nt_R_b1 h
      refine nt_cVi X (As := [.int (104 : Int32), .int (101 : Int32), .int (97 : Int32), .int (114 : Int32), .int (100 : Int32), .int (0 : Int32), .int (0 : Int32), .int (0 : Int32)]) 0 (nt_lM hw (Nat.le_of_ble_eq_true rfl)) (nt_m0 hw) rfl (cMo_isWord hw er5) wd_806 wd_804 wd_805 wd_1085 wd_16 rfl hd_X9_isWord ⟨Nat.le_of_ble_eq_true rfl, Nat.le_of_ble_eq_true rfl⟩ ⟨Nat.le_refl 0, Nat.le_refl 0⟩ (Nat.le_of_ble_eq_true rfl) rfl dX9_name_62 ?_
      obtain ⟨ht, hf⟩ := nt_R_if h
      refine nt_if_eq X 73 dX9_name_65 (by decide) (fun q6 => ?_) (fun q6 => ?_)
      · have h := ht q6
        refine nt_aload_n X dX9_name_73 rfl 0 rfl ?_
        refine nt_bipush X dX9_name_74 nt_cb_109 ?_
        refine nt_bipush X dX9_name_76 nt_cb_97 ?_
        refine nt_bipush X dX9_name_78 nt_cb_110 ?_
        refine nt_bipush X dX9_name_80 nt_cb_121 ?_
        refine nt_iconst X dX9_name_82 nt_ci_0 ?_
        refine nt_iconst X dX9_name_83 nt_ci_0 ?_
        refine nt_iconst X dX9_name_84 nt_ci_0 ?_
        refine nt_iconst X dX9_name_85 nt_ci_0 ?_
        obtain ⟨r7, er7, h⟩ := nt_R_b1 h
        refine nt_cVi X (As := [.int (109 : Int32), .int (97 : Int32), .int (110 : Int32), .int (121 : Int32), .int (0 : Int32), .int (0 : Int32), .int (0 : Int32), .int (0 : Int32)]) 0 (nt_lM hw (Nat.le_of_ble_eq_true rfl)) (nt_m0 hw) rfl (cMo_isWord hw er7) wd_806 wd_804 wd_805 wd_1085 wd_16 rfl hd_X9_isWord ⟨Nat.le_of_ble_eq_true rfl, Nat.le_of_ble_eq_true rfl⟩ ⟨Nat.le_refl 0, Nat.le_refl 0⟩ (Nat.le_of_ble_eq_true rfl) rfl dX9_name_86 ?_
        obtain ⟨ht, hf⟩ := nt_R_if h
        refine nt_if_eq X 97 dX9_name_89 (by decide) (fun q8 => ?_) (fun q8 => ?_)
        · have h := ht q8
          refine nt_aload_n X dX9_name_97 rfl 0 rfl ?_
          refine nt_bipush X dX9_name_98 nt_cb_110 ?_
          refine nt_bipush X dX9_name_100 nt_cb_105 ?_
          refine nt_bipush X dX9_name_102 nt_cb_103 ?_
          refine nt_bipush X dX9_name_104 nt_cb_104 ?_
          refine nt_bipush X dX9_name_106 nt_cb_116 ?_
          refine nt_iconst X dX9_name_108 nt_ci_0 ?_
          refine nt_iconst X dX9_name_109 nt_ci_0 ?_
          refine nt_iconst X dX9_name_110 nt_ci_0 ?_
          obtain ⟨r9, er9, h⟩ := nt_R_b1 h
          refine nt_cVi X (As := [.int (110 : Int32), .int (105 : Int32), .int (103 : Int32), .int (104 : Int32), .int (116 : Int32), .int (0 : Int32), .int (0 : Int32), .int (0 : Int32)]) 0 (nt_lM hw (Nat.le_of_ble_eq_true rfl)) (nt_m0 hw) rfl (cMo_isWord hw er9) wd_806 wd_804 wd_805 wd_1085 wd_16 rfl hd_X9_isWord ⟨Nat.le_of_ble_eq_true rfl, Nat.le_of_ble_eq_true rfl⟩ ⟨Nat.le_refl 0, Nat.le_refl 0⟩ (Nat.le_of_ble_eq_true rfl) rfl dX9_name_111 ?_
          obtain ⟨ht, hf⟩ := nt_R_if h
          refine nt_if_eq X 122 dX9_name_114 (by decide) (fun q10 => ?_) (fun q10 => ?_)
          · have h := ht q10
            refine nt_aload_n X dX9_name_122 rfl 0 rfl ?_
            refine nt_bipush X dX9_name_123 nt_cb_111 ?_
            refine nt_bipush X dX9_name_125 nt_cb_119 ?_
            refine nt_bipush X dX9_name_127 nt_cb_110 ?_
            refine nt_iconst X dX9_name_129 nt_ci_0 ?_
            refine nt_iconst X dX9_name_130 nt_ci_0 ?_
            refine nt_iconst X dX9_name_131 nt_ci_0 ?_
            refine nt_iconst X dX9_name_132 nt_ci_0 ?_
            refine nt_iconst X dX9_name_133 nt_ci_0 ?_
            obtain ⟨r11, er11, h⟩ := nt_R_b1 h
            refine nt_cVi X (As := [.int (111 : Int32), .int (119 : Int32), .int (110 : Int32), .int (0 : Int32), .int (0 : Int32), .int (0 : Int32), .int (0 : Int32), .int (0 : Int32)]) 0 (nt_lM hw (Nat.le_of_ble_eq_true rfl)) (nt_m0 hw) rfl (cMo_isWord hw er11) wd_806 wd_804 wd_805 wd_1085 wd_16 rfl hd_X9_isWord ⟨Nat.le_of_ble_eq_true rfl, Nat.le_of_ble_eq_true rfl⟩ ⟨Nat.le_refl 0, Nat.le_refl 0⟩ (Nat.le_of_ble_eq_true rfl) rfl dX9_name_134 ?_
            obtain ⟨ht, hf⟩ := nt_R_if h
            refine nt_if_eq X 145 dX9_name_137 (by decide) (fun q12 => ?_) (fun q12 => ?_)
            · have h := ht q12
              refine nt_aload_n X dX9_name_145 rfl 0 rfl ?_
              obtain ⟨g13, eg13, h⟩ := nt_R_b1 h
              refine nt_cVv X (As := []) 0 (nt_lM hw (Nat.le_of_ble_eq_true rfl)) (nt_m0 hw) rfl (cMo_fail hw eg13) wd_815 wd_813 wd_814 wd_1088 wd_16 rfl hd_X9_fail ⟨Nat.le_of_ble_eq_true rfl, Nat.le_of_ble_eq_true rfl⟩ ⟨Nat.le_refl 0, Nat.le_refl 0⟩ (Nat.le_of_ble_eq_true rfl) rfl dX9_name_146 ?_
              refine nt_iconst X dX9_name_149 nt_ci_0 ?_
              have h := nt_R_some h
              exact nt_iret X dX9_name_150 h
            · have h := hf q12
              refine nt_aload_n X dX9_name_140 rfl 0 rfl ?_
              refine nt_get X 0 inX9 (nt_lM hw (Nat.le_of_ble_eq_true rfl)) (nt_m0 hw) rfl (j := 24) (by decide) wd_646 (v := .int (g 0 24)) rfl dX9_name_141 ?_
              have h := nt_R_some h
              exact nt_iret X dX9_name_144 h
          · have h := hf q10
            refine nt_aload_n X dX9_name_117 rfl 0 rfl ?_
            refine nt_get X 0 inX9 (nt_lM hw (Nat.le_of_ble_eq_true rfl)) (nt_m0 hw) rfl (j := 23) (by decide) wd_645 (v := .int (g 0 23)) rfl dX9_name_118 ?_
            have h := nt_R_some h
            exact nt_iret X dX9_name_121 h
        · have h := hf q8
          refine nt_aload_n X dX9_name_92 rfl 0 rfl ?_
          refine nt_get X 0 inX9 (nt_lM hw (Nat.le_of_ble_eq_true rfl)) (nt_m0 hw) rfl (j := 22) (by decide) wd_644 (v := .int (g 0 22)) rfl dX9_name_93 ?_
          have h := nt_R_some h
          exact nt_iret X dX9_name_96 h
      · have h := hf q6
        refine nt_aload_n X dX9_name_68 rfl 0 rfl ?_
        refine nt_get X 0 inX9 (nt_lM hw (Nat.le_of_ble_eq_true rfl)) (nt_m0 hw) rfl (j := 21) (by decide) wd_643 (v := .int (g 0 21)) rfl dX9_name_69 ?_
        have h := nt_R_some h
        exact nt_iret X dX9_name_72 h
    · have h := hf q4
      refine nt_aload_n X dX9_name_43 rfl 0 rfl ?_
      refine nt_get X 0 inX9 (nt_lM hw (Nat.le_of_ble_eq_true rfl)) (nt_m0 hw) rfl (j := 20) (by decide) wd_642 (v := .int (g 0 20)) rfl dX9_name_44 ?_
      have h := nt_R_some h
      exact nt_iret X dX9_name_47 h
  · have h := hf q2
    refine nt_aload_n X dX9_name_18 rfl 0 rfl ?_
    refine nt_get X 0 inX9 (nt_lM hw (Nat.le_of_ble_eq_true rfl)) (nt_m0 hw) rfl (j := 19) (by decide) wd_641 (v := .int (g 0 19)) rfl dX9_name_19 ?_
    have h := nt_R_some h
    exact nt_iret X dX9_name_22 h
def fMo_force (x1 : Int32) (g : nt_T) : Option (Int32 × nt_T) :=
  nt_b1 (fMo_in (Int32.toInt64 x1) (0 : Int64) (Int32.toInt64 ((g 0 3) - (1 : Int32))) g) fun r1 => (if r1 = 0 then
    (some ((-2 : Int32), g))
  else
    (nt_lt (g 0 4) fun v3 => nt_lt (nt_st g 0 4 x1) fun g4 => some (v3, g4)))
set_option maxRecDepth 100000 in
set_option maxHeartbeats 4000000 in
theorem cMo_force {l : Launch} {w : nt_w} (hw : nt_isM w) {x1 : Int32} {g : nt_T} {r : Int32} {g2 : nt_T} (hf : fMo_force x1 g = some (r, g2)) : nt_Mi l w yX9_force cX9_force 3 (some .int) 3 [.ref (nt_a w 0), .int x1] g r g2 := by
  refine nt_Mi_of (by decide) (Nat.le_of_ble_eq_true rfl) (fun p e s m args below meth c A X => ?_)
  have X : nt_X cX9_force 3 RX9 (some .int) w A p s m args meth c := X
  have h : nt_R (fMo_force x1 g) (fun z => z = (r, g2)) := ⟨_, hf, rfl⟩
  unfold fMo_force at h
  show nt_G p l e (nt_rm 3) s m args below meth c w A 0 0 (nt_Qi w A below args s r g2) 3 0 [(0, .ref (nt_a w 0)), (1, .int x1)] [] g
  refine nt_iload_n X dX9_force_0 rfl 1 rfl ?_
  refine nt_i2l X dX9_force_1 rfl ?_
  refine nt_lconst X dX9_force_2 nt_cl_0 ?_
  refine nt_aload_n X dX9_force_3 rfl 0 rfl ?_
  refine nt_get X 0 inX9 (nt_lM hw (Nat.le_of_ble_eq_true rfl)) (nt_m0 hw) rfl (j := 3) (by decide) wd_625 (v := .int (g 0 3)) rfl dX9_force_4 ?_
  refine nt_iconst X dX9_force_7 nt_ci_1 ?_
  refine nt_isub X dX9_force_8 ?_
  refine nt_i2l X dX9_force_9 rfl ?_
  obtain ⟨r1, er1, h⟩ := nt_R_b1 h
  refine nt_cSi X (As := [.long (Int32.toInt64 x1), .long (0 : Int64), .long (Int32.toInt64 ((g 0 3) - (1 : Int32)))]) (cMo_in hw er1) wd_732 wd_730 wd_731 wd_16 hd_X9_in ⟨Nat.le_of_ble_eq_true rfl, Nat.le_of_ble_eq_true rfl⟩ ⟨Nat.le_refl 0, Nat.le_refl 0⟩ (Nat.le_of_ble_eq_true rfl) rfl dX9_force_10 ?_
  obtain ⟨ht, hf⟩ := nt_R_if h
  refine nt_if_ne X 19 dX9_force_13 (by decide) (fun q2 => ?_) (fun q2 => ?_)
  · have h := hf q2
    refine nt_aload_n X dX9_force_19 rfl 0 rfl ?_
    refine nt_get X 0 inX9 (nt_lM hw (Nat.le_of_ble_eq_true rfl)) (nt_m0 hw) rfl (j := 4) (by decide) wd_626 (v := .int (g 0 4)) rfl dX9_force_20 ?_
    obtain ⟨v3, ev3, h⟩ := nt_R_lt h
    refine nt_topi ev3 ?_
    refine nt_istore_n X [(2, .int v3), (0, .ref (nt_a w 0)), (1, .int x1)] dX9_force_23 rfl (by decide) rfl ?_
    refine nt_aload_n X dX9_force_24 rfl 1 rfl ?_
    refine nt_iload_n X dX9_force_25 rfl 2 rfl ?_
    refine nt_put X 0 inX9 (nt_lM hw (Nat.le_of_ble_eq_true rfl)) (nt_m0 hw) rfl (j := 4) (by decide) wd_626 tyX9 tyX9_ok nmX9 rfl (ty := .int) rfl rfl rfl (fun _ => Nat.le_of_ble_eq_true rfl) (fun _ => rfl) dX9_force_26 ?_
    obtain ⟨g4, eg4, h⟩ := nt_R_lt h
    refine nt_geq eg4 ?_
    refine nt_iload_n X dX9_force_29 rfl 0 rfl ?_
    have h := nt_R_some h
    exact nt_iret X dX9_force_30 h
  · have h := ht q2
    refine nt_bipush X dX9_force_16 nt_cb_m2 ?_
    have h := nt_R_some h
    exact nt_iret X dX9_force_18 h
def bMo_sitting_4 (x1 : Int32) (g : nt_T) (x2 : Int32) (x3 : Int32) : Option ((Int32 × Int32) ⊕ ((Int32))) :=
  (if (g 0 17) ≤ x3 then
    (some (.inr x2))
  else
    (nt_gd (nt_in x3 9) <| (if (g 11 (Int32.toNatClampNeg x3)) = x1 then
    (nt_lt (x2 ||| ((1 : Int32) <<< (x3 &&& 31))) fun v5 => nt_lt (x3 + (1 : Int32)) fun v6 => some (.inl (v5, v6)))
  else
    (nt_lt (x3 + (1 : Int32)) fun v4 => some (.inl (x2, v4))))))
set_option maxRecDepth 100000 in
set_option maxHeartbeats 4000000 in
theorem tbMo_sitting_4 {p : Program} {l : Launch} {e : Env} {s : State} {m : MethodId} {args : Array Value} {below : List Frame} {meth : Method} {c : Code} {w : nt_w} {A : Nat → Prop} (hw : nt_isM w) {Q : State → Prop} (X : nt_X cX9_sitting 4 RX9 (some .int) w A p s m args meth c) (x1 : Int32) (g : nt_T)  {Qx : ((Int32)) → Prop} (hE0 : ∀ (y2 : Int32), Qx y2 → nt_G p l e (nt_rm 1) s m args below meth c w A 0 0 Q 4 34 [(0, .ref (nt_a w 0)), (1, .int x1), (2, .int y2)] [] g) : ∀ (n : Nat) (x2 : Int32) (x3 : Int32), nt_R (nt_it (fun z => bMo_sitting_4 x1 g z.1 z.2) n (x2, x3)) Qx → nt_G p l e (nt_rm 1) s m args below meth c w A 0 0 Q 4 4 [(0, .ref (nt_a w 0)), (1, .int x1), (2, .int x2), (3, .int x3)] [] g := by
  intro n
  induction n with
  | zero =>
    intro x2 x3 h
    exact nt_R_none h
  | succ n ih =>
    intro x2 x3 h
    have h : nt_R (bMo_sitting_4 x1 g x2 x3) (nt_Qz (fun z => bMo_sitting_4 x1 g z.1 z.2) n Qx) := nt_R_it h
    have hI : ∀ (y2 : Int32) (y3 : Int32), nt_Qz (fun z => bMo_sitting_4 x1 g z.1 z.2) n Qx (.inl (y2, y3)) → nt_G p l e (nt_rm 1) s m args below meth c w A 0 0 Q 4 4 [(0, .ref (nt_a w 0)), (1, .int x1), (2, .int y2), (3, .int y3)] [] g := fun y2 y3 q => ih y2 y3 q
    have hE0 : ∀ (y2 : Int32), nt_Qz (fun z => bMo_sitting_4 x1 g z.1 z.2) n Qx (.inr y2) → nt_G p l e (nt_rm 1) s m args below meth c w A 0 0 Q 4 34 [(0, .ref (nt_a w 0)), (1, .int x1), (2, .int y2)] [] g := hE0
    generalize nt_Qz (fun z => bMo_sitting_4 x1 g z.1 z.2) n Qx = Qz at h hI hE0
    unfold bMo_sitting_4 at h
    refine nt_iload_n X dX9_sitting_4 rfl 3 rfl ?_
    refine nt_aload_n X dX9_sitting_5 rfl 0 rfl ?_
    refine nt_get X 0 inX9 (nt_lM hw (Nat.le_of_ble_eq_true rfl)) (nt_m0 hw) rfl (j := 17) (by decide) wd_639 (v := .int (g 0 17)) rfl dX9_sitting_6 ?_
    obtain ⟨ht, hf⟩ := nt_R_if h
    refine nt_icmp_ge X 34 dX9_sitting_9 (by decide) (fun q1 => ?_) (fun q1 => ?_)
    · have h := ht q1
      refine nt_sub [0, 1, 2] rfl ?_
      have h := nt_R_some h
      exact hE0 x2 h
    · have h := hf q1
      refine nt_aload_n X dX9_sitting_12 rfl 0 rfl ?_
      refine nt_get X 0 inX9 (nt_lM hw (Nat.le_of_ble_eq_true rfl)) (nt_m0 hw) rfl (j := 15) (by decide) wd_637 (v := .ref (nt_a w 11)) rfl dX9_sitting_13 ?_
      refine nt_iload_n X dX9_sitting_16 rfl 3 rfl ?_
      obtain ⟨q2, h⟩ := nt_R_gd h
      refine nt_iald X 11 0 (nt_lM hw (Nat.le_of_ble_eq_true rfl)) (nt_m11 hw) (nt_tM hw) q2 dX9_sitting_17 ?_
      refine nt_iload_n X dX9_sitting_18 rfl 1 rfl ?_
      obtain ⟨ht, hf⟩ := nt_R_if h
      refine nt_icmp_ne X 28 dX9_sitting_19 (by decide) (fun q3 => ?_) (fun q3 => ?_)
      · have h := hf q3
        obtain ⟨v4, ev4, h⟩ := nt_R_lt h
        refine nt_iinc X v4 [(3, .int v4), (0, .ref (nt_a w 0)), (1, .int x1), (2, .int x2)] dX9_sitting_28 3 rfl (by rw [nt_ci_1]; exact ev4) (by decide) rfl ?_
        refine nt_goto X 4 dX9_sitting_31 (by decide) ?_
        refine nt_sub [1, 2, 3, 0] rfl ?_
        have h := nt_R_some h
        exact hI x2 v4 h
      · have h := ht q3
        refine nt_iload_n X dX9_sitting_22 rfl 2 rfl ?_
        refine nt_iconst X dX9_sitting_23 nt_ci_1 ?_
        refine nt_iload_n X dX9_sitting_24 rfl 3 rfl ?_
        refine nt_ishl X dX9_sitting_25 ?_
        refine nt_ior X dX9_sitting_26 ?_
        obtain ⟨v5, ev5, h⟩ := nt_R_lt h
        refine nt_topi ev5 ?_
        refine nt_istore_n X [(2, .int v5), (0, .ref (nt_a w 0)), (1, .int x1), (3, .int x3)] dX9_sitting_27 rfl (by decide) rfl ?_
        obtain ⟨v6, ev6, h⟩ := nt_R_lt h
        refine nt_iinc X v6 [(3, .int v6), (2, .int v5), (0, .ref (nt_a w 0)), (1, .int x1)] dX9_sitting_28 3 rfl (by rw [nt_ci_1]; exact ev6) (by decide) rfl ?_
        refine nt_goto X 4 dX9_sitting_31 (by decide) ?_
        refine nt_sub [2, 3, 1, 0] rfl ?_
        have h := nt_R_some h
        exact hI v5 v6 h
def fMo_sitting (x1 : Int32) (g : nt_T) : Option (Int32) :=
  (nt_b1 (nt_it (fun z => bMo_sitting_4 x1 g z.1 z.2) nt_fu ((0 : Int32), (0 : Int32))) fun v7 => some v7)
set_option maxRecDepth 100000 in
set_option maxHeartbeats 4000000 in
theorem cMo_sitting {l : Launch} {w : nt_w} (hw : nt_isM w) {x1 : Int32} {g : nt_T} {r : Int32} (hf : fMo_sitting x1 g = some r) : nt_Mi l w yX9_sitting cX9_sitting 4 (some .int) 1 [.ref (nt_a w 0), .int x1] g r g := by
  refine nt_Mi_of (by decide) (Nat.le_of_ble_eq_true rfl) (fun p e s m args below meth c A X => ?_)
  have X : nt_X cX9_sitting 4 RX9 (some .int) w A p s m args meth c := X
  have hg : g = g := rfl
  have h : nt_R (fMo_sitting x1 g) (fun z => z = r) := ⟨_, hf, rfl⟩
  unfold fMo_sitting at h
  show nt_G p l e (nt_rm 1) s m args below meth c w A 0 0 (nt_Qi w A below args s r g) 4 0 [(0, .ref (nt_a w 0)), (1, .int x1)] [] g
  refine nt_iconst X dX9_sitting_0 nt_ci_0 ?_
  refine nt_istore_n X [(2, .int (0 : Int32)), (0, .ref (nt_a w 0)), (1, .int x1)] dX9_sitting_1 rfl (by decide) rfl ?_
  refine nt_iconst X dX9_sitting_2 nt_ci_0 ?_
  refine nt_istore_n X [(3, .int (0 : Int32)), (2, .int (0 : Int32)), (0, .ref (nt_a w 0)), (1, .int x1)] dX9_sitting_3 rfl (by decide) rfl ?_
  obtain ⟨z8, hz8, h⟩ := nt_R_b1 h
  refine nt_sub [2, 3, 1, 0] rfl ?_
  refine tbMo_sitting_4 hw X x1 g (Qx := fun z => z = z8) (fun v7 hq => ?_) nt_fu (0 : Int32) (0 : Int32) ⟨_, hz8, rfl⟩
  subst hq
  refine nt_iload_n X dX9_sitting_34 rfl 2 rfl ?_
  have h := nt_R_some h
  exact nt_iret X dX9_sitting_35 (nt_pe h hg)
def bMo_knowers_4 (x1 : Int32) (g : nt_T) (x2 : Int32) (x3 : Int32) : Option ((Int32 × Int32) ⊕ ((Int32))) :=
  (if (g 0 17) ≤ x3 then
    (some (.inr x2))
  else
    (nt_b1 (fMo_known x3 g) fun r2 => nt_lt (x2 ||| (((r2 >>> (x1 &&& 31)) &&& (1 : Int32)) <<< (x3 &&& 31))) fun v3 => nt_lt (x3 + (1 : Int32)) fun v4 => some (.inl (v3, v4))))
set_option maxRecDepth 100000 in
set_option maxHeartbeats 4000000 in
theorem tbMo_knowers_4 {p : Program} {l : Launch} {e : Env} {s : State} {m : MethodId} {args : Array Value} {below : List Frame} {meth : Method} {c : Code} {w : nt_w} {A : Nat → Prop} (hw : nt_isM w) {Q : State → Prop} (X : nt_X cX9_knowers 4 RX9 (some .int) w A p s m args meth c) (x1 : Int32) (g : nt_T)  {Qx : ((Int32)) → Prop} (hE0 : ∀ (y2 : Int32), Qx y2 → nt_G p l e (nt_rm 3) s m args below meth c w A 0 0 Q 4 32 [(0, .ref (nt_a w 0)), (1, .int x1), (2, .int y2)] [] g) : ∀ (n : Nat) (x2 : Int32) (x3 : Int32), nt_R (nt_it (fun z => bMo_knowers_4 x1 g z.1 z.2) n (x2, x3)) Qx → nt_G p l e (nt_rm 3) s m args below meth c w A 0 0 Q 4 4 [(0, .ref (nt_a w 0)), (1, .int x1), (2, .int x2), (3, .int x3)] [] g := by
  intro n
  induction n with
  | zero =>
    intro x2 x3 h
    exact nt_R_none h
  | succ n ih =>
    intro x2 x3 h
    have h : nt_R (bMo_knowers_4 x1 g x2 x3) (nt_Qz (fun z => bMo_knowers_4 x1 g z.1 z.2) n Qx) := nt_R_it h
    have hI : ∀ (y2 : Int32) (y3 : Int32), nt_Qz (fun z => bMo_knowers_4 x1 g z.1 z.2) n Qx (.inl (y2, y3)) → nt_G p l e (nt_rm 3) s m args below meth c w A 0 0 Q 4 4 [(0, .ref (nt_a w 0)), (1, .int x1), (2, .int y2), (3, .int y3)] [] g := fun y2 y3 q => ih y2 y3 q
    have hE0 : ∀ (y2 : Int32), nt_Qz (fun z => bMo_knowers_4 x1 g z.1 z.2) n Qx (.inr y2) → nt_G p l e (nt_rm 3) s m args below meth c w A 0 0 Q 4 32 [(0, .ref (nt_a w 0)), (1, .int x1), (2, .int y2)] [] g := hE0
    generalize nt_Qz (fun z => bMo_knowers_4 x1 g z.1 z.2) n Qx = Qz at h hI hE0
    unfold bMo_knowers_4 at h
    refine nt_iload_n X dX9_knowers_4 rfl 3 rfl ?_
    refine nt_aload_n X dX9_knowers_5 rfl 0 rfl ?_
    refine nt_get X 0 inX9 (nt_lM hw (Nat.le_of_ble_eq_true rfl)) (nt_m0 hw) rfl (j := 17) (by decide) wd_639 (v := .int (g 0 17)) rfl dX9_knowers_6 ?_
    obtain ⟨ht, hf⟩ := nt_R_if h
    refine nt_icmp_ge X 32 dX9_knowers_9 (by decide) (fun q1 => ?_) (fun q1 => ?_)
    · have h := ht q1
      refine nt_sub [0, 1, 2] rfl ?_
      have h := nt_R_some h
      exact hE0 x2 h
    · have h := hf q1
      refine nt_iload_n X dX9_knowers_12 rfl 2 rfl ?_
      refine nt_aload_n X dX9_knowers_13 rfl 0 rfl ?_
      refine nt_iload_n X dX9_knowers_14 rfl 3 rfl ?_
      obtain ⟨r2, er2, h⟩ := nt_R_b1 h
      refine nt_cVi X (As := [.int x3]) 0 (nt_lM hw (Nat.le_of_ble_eq_true rfl)) (nt_m0 hw) rfl (cMo_known hw er2) wd_781 wd_779 wd_780 wd_1081 wd_16 rfl hd_X9_known ⟨Nat.le_of_ble_eq_true rfl, Nat.le_of_ble_eq_true rfl⟩ ⟨Nat.le_refl 0, Nat.le_refl 0⟩ (Nat.le_of_ble_eq_true rfl) rfl dX9_knowers_15 ?_
      refine nt_iload_n X dX9_knowers_18 rfl 1 rfl ?_
      refine nt_ishr X dX9_knowers_19 ?_
      refine nt_iconst X dX9_knowers_20 nt_ci_1 ?_
      refine nt_iand X dX9_knowers_21 ?_
      refine nt_iload_n X dX9_knowers_22 rfl 3 rfl ?_
      refine nt_ishl X dX9_knowers_23 ?_
      refine nt_ior X dX9_knowers_24 ?_
      obtain ⟨v3, ev3, h⟩ := nt_R_lt h
      refine nt_topi ev3 ?_
      refine nt_istore_n X [(2, .int v3), (0, .ref (nt_a w 0)), (1, .int x1), (3, .int x3)] dX9_knowers_25 rfl (by decide) rfl ?_
      obtain ⟨v4, ev4, h⟩ := nt_R_lt h
      refine nt_iinc X v4 [(3, .int v4), (2, .int v3), (0, .ref (nt_a w 0)), (1, .int x1)] dX9_knowers_26 3 rfl (by rw [nt_ci_1]; exact ev4) (by decide) rfl ?_
      refine nt_goto X 4 dX9_knowers_29 (by decide) ?_
      refine nt_sub [2, 3, 1, 0] rfl ?_
      have h := nt_R_some h
      exact hI v3 v4 h
def fMo_knowers (x1 : Int32) (g : nt_T) : Option (Int32) :=
  (nt_b1 (nt_it (fun z => bMo_knowers_4 x1 g z.1 z.2) nt_fu ((0 : Int32), (0 : Int32))) fun v5 => some v5)
set_option maxRecDepth 100000 in
set_option maxHeartbeats 4000000 in
theorem cMo_knowers {l : Launch} {w : nt_w} (hw : nt_isM w) {x1 : Int32} {g : nt_T} {r : Int32} (hf : fMo_knowers x1 g = some r) : nt_Mi l w yX9_knowers cX9_knowers 4 (some .int) 3 [.ref (nt_a w 0), .int x1] g r g := by
  refine nt_Mi_of (by decide) (Nat.le_of_ble_eq_true rfl) (fun p e s m args below meth c A X => ?_)
  have X : nt_X cX9_knowers 4 RX9 (some .int) w A p s m args meth c := X
  have hg : g = g := rfl
  have h : nt_R (fMo_knowers x1 g) (fun z => z = r) := ⟨_, hf, rfl⟩
  unfold fMo_knowers at h
  show nt_G p l e (nt_rm 3) s m args below meth c w A 0 0 (nt_Qi w A below args s r g) 4 0 [(0, .ref (nt_a w 0)), (1, .int x1)] [] g
  refine nt_iconst X dX9_knowers_0 nt_ci_0 ?_
  refine nt_istore_n X [(2, .int (0 : Int32)), (0, .ref (nt_a w 0)), (1, .int x1)] dX9_knowers_1 rfl (by decide) rfl ?_
  refine nt_iconst X dX9_knowers_2 nt_ci_0 ?_
  refine nt_istore_n X [(3, .int (0 : Int32)), (2, .int (0 : Int32)), (0, .ref (nt_a w 0)), (1, .int x1)] dX9_knowers_3 rfl (by decide) rfl ?_
  obtain ⟨z6, hz6, h⟩ := nt_R_b1 h
  refine nt_sub [2, 3, 1, 0] rfl ?_
  refine tbMo_knowers_4 hw X x1 g (Qx := fun z => z = z6) (fun v5 hq => ?_) nt_fu (0 : Int32) (0 : Int32) ⟨_, hz6, rfl⟩
  subst hq
  refine nt_iload_n X dX9_knowers_32 rfl 2 rfl ?_
  have h := nt_R_some h
  exact nt_iret X dX9_knowers_33 (nt_pe h hg)
def bMo_tellIn_6 (x1 : Int32) (x2 : Int32) (x3 : Int32) (x4 : Int32) (x5 : Int32) (g : nt_T) : Option ((Int32 × Int32 × nt_T) ⊕ ((Int32 × nt_T))) :=
  (if (g 0 17) ≤ x5 then
    (some (.inr (x4, g)))
  else
    (nt_gd (nt_in x5 9) <| (if (g 11 (Int32.toNatClampNeg x5)) = x1 then
    ((if x5 = x3 then
    (nt_lt (x5 + (1 : Int32)) fun v6 => some (.inl (x4, v6, g)))
  else
    (nt_gd (nt_in x5 9) <| nt_gd (nt_in x5 9) <| nt_lt (nt_st g 10 (Int32.toNatClampNeg x5) ((g 10 (Int32.toNatClampNeg x5)) ||| ((1 : Int32) <<< (x2 &&& 31)))) fun g9 => nt_gd (nt_in (((8 : Int32) * x5) + x2) 72) <| nt_lt (nt_st g9 12 (Int32.toNatClampNeg (((8 : Int32) * x5) + x2)) (g9 0 18)) fun g11 => nt_lt (x4 + (1 : Int32)) fun v12 => nt_lt (x5 + (1 : Int32)) fun v13 => some (.inl (v12, v13, g11)))))
  else
    (nt_lt (x5 + (1 : Int32)) fun v4 => some (.inl (x4, v4, g))))))
set_option maxRecDepth 100000 in
set_option maxHeartbeats 4000000 in
theorem tbMo_tellIn_6 {p : Program} {l : Launch} {e : Env} {s : State} {m : MethodId} {args : Array Value} {below : List Frame} {meth : Method} {c : Code} {w : nt_w} {A : Nat → Prop} (hw : nt_isM w) {Q : State → Prop} (X : nt_X cX9_tellIn 6 RX9 (some .int) w A p s m args meth c) (x1 : Int32) (x2 : Int32) (x3 : Int32)  {Qx : ((Int32 × nt_T)) → Prop} (hE0 : ∀ (y4 : Int32) (gy : nt_T), Qx (y4, gy) → nt_G p l e (nt_rm 1) s m args below meth c w A 0 0 Q 6 70 [(0, .ref (nt_a w 0)), (1, .int x1), (2, .int x2), (3, .int x3), (4, .int y4)] [] gy) : ∀ (n : Nat) (x4 : Int32) (x5 : Int32) (g : nt_T), nt_R (nt_it (fun z => bMo_tellIn_6 x1 x2 x3 z.1 z.2.1 z.2.2) n (x4, x5, g)) Qx → nt_G p l e (nt_rm 1) s m args below meth c w A 0 0 Q 6 6 [(0, .ref (nt_a w 0)), (1, .int x1), (2, .int x2), (3, .int x3), (4, .int x4), (5, .int x5)] [] g := by
  intro n
  induction n with
  | zero =>
    intro x4 x5 g h
    exact nt_R_none h
  | succ n ih =>
    intro x4 x5 g h
    have h : nt_R (bMo_tellIn_6 x1 x2 x3 x4 x5 g) (nt_Qz (fun z => bMo_tellIn_6 x1 x2 x3 z.1 z.2.1 z.2.2) n Qx) := nt_R_it h
    have hI : ∀ (y4 : Int32) (y5 : Int32) (gy : nt_T), nt_Qz (fun z => bMo_tellIn_6 x1 x2 x3 z.1 z.2.1 z.2.2) n Qx (.inl (y4, y5, gy)) → nt_G p l e (nt_rm 1) s m args below meth c w A 0 0 Q 6 6 [(0, .ref (nt_a w 0)), (1, .int x1), (2, .int x2), (3, .int x3), (4, .int y4), (5, .int y5)] [] gy := fun y4 y5 gy q => ih y4 y5 gy q
    have hE0 : ∀ (y4 : Int32) (gy : nt_T), nt_Qz (fun z => bMo_tellIn_6 x1 x2 x3 z.1 z.2.1 z.2.2) n Qx (.inr (y4, gy)) → nt_G p l e (nt_rm 1) s m args below meth c w A 0 0 Q 6 70 [(0, .ref (nt_a w 0)), (1, .int x1), (2, .int x2), (3, .int x3), (4, .int y4)] [] gy := hE0
    generalize nt_Qz (fun z => bMo_tellIn_6 x1 x2 x3 z.1 z.2.1 z.2.2) n Qx = Qz at h hI hE0
    unfold bMo_tellIn_6 at h
    refine nt_iload X dX9_tellIn_6 5 rfl ?_
    refine nt_aload_n X dX9_tellIn_8 rfl 0 rfl ?_
    refine nt_get X 0 inX9 (nt_lM hw (Nat.le_of_ble_eq_true rfl)) (nt_m0 hw) rfl (j := 17) (by decide) wd_639 (v := .int (g 0 17)) rfl dX9_tellIn_9 ?_
    obtain ⟨ht, hf⟩ := nt_R_if h
    refine nt_icmp_ge X 70 dX9_tellIn_12 (by decide) (fun q1 => ?_) (fun q1 => ?_)
    · have h := ht q1
      refine nt_sub [0, 1, 2, 3, 4] rfl ?_
      have h := nt_R_some h
      exact hE0 x4 g h
    · have h := hf q1
      refine nt_aload_n X dX9_tellIn_15 rfl 0 rfl ?_
      refine nt_get X 0 inX9 (nt_lM hw (Nat.le_of_ble_eq_true rfl)) (nt_m0 hw) rfl (j := 15) (by decide) wd_637 (v := .ref (nt_a w 11)) rfl dX9_tellIn_16 ?_
      refine nt_iload X dX9_tellIn_19 5 rfl ?_
      obtain ⟨q2, h⟩ := nt_R_gd h
      refine nt_iald X 11 0 (nt_lM hw (Nat.le_of_ble_eq_true rfl)) (nt_m11 hw) (nt_tM hw) q2 dX9_tellIn_21 ?_
      refine nt_iload_n X dX9_tellIn_22 rfl 1 rfl ?_
      obtain ⟨ht, hf⟩ := nt_R_if h
      refine nt_icmp_ne X 64 dX9_tellIn_23 (by decide) (fun q3 => ?_) (fun q3 => ?_)
      · have h := hf q3
        obtain ⟨v4, ev4, h⟩ := nt_R_lt h
        refine nt_iinc X v4 [(5, .int v4), (0, .ref (nt_a w 0)), (1, .int x1), (2, .int x2), (3, .int x3), (4, .int x4)] dX9_tellIn_64 5 rfl (by rw [nt_ci_1]; exact ev4) (by decide) rfl ?_
        refine nt_goto X 6 dX9_tellIn_67 (by decide) ?_
        refine nt_sub [1, 2, 3, 4, 5, 0] rfl ?_
        have h := nt_R_some h
        exact hI x4 v4 g h
      · have h := ht q3
        refine nt_iload X dX9_tellIn_26 5 rfl ?_
        refine nt_iload_n X dX9_tellIn_28 rfl 3 rfl ?_
        obtain ⟨ht, hf⟩ := nt_R_if h
        refine nt_icmp_eq X 64 dX9_tellIn_29 (by decide) (fun q5 => ?_) (fun q5 => ?_)
        · have h := ht q5
          obtain ⟨v6, ev6, h⟩ := nt_R_lt h
          refine nt_iinc X v6 [(5, .int v6), (0, .ref (nt_a w 0)), (1, .int x1), (2, .int x2), (3, .int x3), (4, .int x4)] dX9_tellIn_64 5 rfl (by rw [nt_ci_1]; exact ev6) (by decide) rfl ?_
          refine nt_goto X 6 dX9_tellIn_67 (by decide) ?_
          refine nt_sub [1, 2, 3, 4, 5, 0] rfl ?_
          have h := nt_R_some h
          exact hI x4 v6 g h
        · have h := hf q5
          refine nt_aload_n X dX9_tellIn_32 rfl 0 rfl ?_
          refine nt_get X 0 inX9 (nt_lM hw (Nat.le_of_ble_eq_true rfl)) (nt_m0 hw) rfl (j := 14) (by decide) wd_636 (v := .ref (nt_a w 10)) rfl dX9_tellIn_33 ?_
          refine nt_iload X dX9_tellIn_36 5 rfl ?_
          refine nt_dup2 X dX9_tellIn_38 rfl rfl ?_
          obtain ⟨q7, h⟩ := nt_R_gd h
          refine nt_iald X 10 0 (nt_lM hw (Nat.le_of_ble_eq_true rfl)) (nt_m10 hw) (nt_tM hw) q7 dX9_tellIn_39 ?_
          refine nt_iconst X dX9_tellIn_40 nt_ci_1 ?_
          refine nt_iload_n X dX9_tellIn_41 rfl 2 rfl ?_
          refine nt_ishl X dX9_tellIn_42 ?_
          refine nt_ior X dX9_tellIn_43 ?_
          obtain ⟨q8, h⟩ := nt_R_gd h
          refine nt_iast X 10 0 (nt_lM hw (Nat.le_of_ble_eq_true rfl)) (nt_m10 hw) (nt_tM hw) q8 dX9_tellIn_44 ?_
          obtain ⟨g9, eg9, h⟩ := nt_R_lt h
          refine nt_geq eg9 ?_
          refine nt_aload_n X dX9_tellIn_45 rfl 0 rfl ?_
          refine nt_get X 0 inX9 (nt_lM hw (Nat.le_of_ble_eq_true rfl)) (nt_m0 hw) rfl (j := 16) (by decide) wd_638 (v := .ref (nt_a w 12)) rfl dX9_tellIn_46 ?_
          refine nt_bipush X dX9_tellIn_49 nt_cb_8 ?_
          refine nt_iload X dX9_tellIn_51 5 rfl ?_
          refine nt_imul X dX9_tellIn_53 ?_
          refine nt_iload_n X dX9_tellIn_54 rfl 2 rfl ?_
          refine nt_iadd X dX9_tellIn_55 ?_
          refine nt_aload_n X dX9_tellIn_56 rfl 0 rfl ?_
          refine nt_get X 0 inX9 (nt_lM hw (Nat.le_of_ble_eq_true rfl)) (nt_m0 hw) rfl (j := 18) (by decide) wd_640 (v := .int (g9 0 18)) rfl dX9_tellIn_57 ?_
          obtain ⟨q10, h⟩ := nt_R_gd h
          refine nt_iast X 12 0 (nt_lM hw (Nat.le_of_ble_eq_true rfl)) (nt_m12 hw) (nt_tM hw) q10 dX9_tellIn_60 ?_
          obtain ⟨g11, eg11, h⟩ := nt_R_lt h
          refine nt_geq eg11 ?_
          obtain ⟨v12, ev12, h⟩ := nt_R_lt h
          refine nt_iinc X v12 [(4, .int v12), (0, .ref (nt_a w 0)), (1, .int x1), (2, .int x2), (3, .int x3), (5, .int x5)] dX9_tellIn_61 4 rfl (by rw [nt_ci_1]; exact ev12) (by decide) rfl ?_
          obtain ⟨v13, ev13, h⟩ := nt_R_lt h
          refine nt_iinc X v13 [(5, .int v13), (4, .int v12), (0, .ref (nt_a w 0)), (1, .int x1), (2, .int x2), (3, .int x3)] dX9_tellIn_64 5 rfl (by rw [nt_ci_1]; exact ev13) (by decide) rfl ?_
          refine nt_goto X 6 dX9_tellIn_67 (by decide) ?_
          refine nt_sub [2, 3, 4, 5, 1, 0] rfl ?_
          have h := nt_R_some h
          exact hI v12 v13 g11 h
def fMo_tellIn (x1 : Int32) (x2 : Int32) (x3 : Int32) (g : nt_T) : Option (Int32 × nt_T) :=
  (nt_b1 (nt_it (fun z => bMo_tellIn_6 x1 x2 x3 z.1 z.2.1 z.2.2) nt_fu ((0 : Int32), (0 : Int32), g)) fun z16 => match z16 with
  | (v14, g15) => some (v14, g15))
set_option maxRecDepth 100000 in
set_option maxHeartbeats 4000000 in
theorem cMo_tellIn {l : Launch} {w : nt_w} (hw : nt_isM w) {x1 : Int32} {x2 : Int32} {x3 : Int32} {g : nt_T} {r : Int32} {g2 : nt_T} (hf : fMo_tellIn x1 x2 x3 g = some (r, g2)) : nt_Mi l w yX9_tellIn cX9_tellIn 6 (some .int) 1 [.ref (nt_a w 0), .int x1, .int x2, .int x3] g r g2 := by
  refine nt_Mi_of (by decide) (Nat.le_of_ble_eq_true rfl) (fun p e s m args below meth c A X => ?_)
  have X : nt_X cX9_tellIn 6 RX9 (some .int) w A p s m args meth c := X
  have h : nt_R (fMo_tellIn x1 x2 x3 g) (fun z => z = (r, g2)) := ⟨_, hf, rfl⟩
  unfold fMo_tellIn at h
  show nt_G p l e (nt_rm 1) s m args below meth c w A 0 0 (nt_Qi w A below args s r g2) 6 0 [(0, .ref (nt_a w 0)), (1, .int x1), (2, .int x2), (3, .int x3)] [] g
  refine nt_iconst X dX9_tellIn_0 nt_ci_0 ?_
  refine nt_istore X [(4, .int (0 : Int32)), (0, .ref (nt_a w 0)), (1, .int x1), (2, .int x2), (3, .int x3)] dX9_tellIn_1 (by decide) rfl ?_
  refine nt_iconst X dX9_tellIn_3 nt_ci_0 ?_
  refine nt_istore X [(5, .int (0 : Int32)), (4, .int (0 : Int32)), (0, .ref (nt_a w 0)), (1, .int x1), (2, .int x2), (3, .int x3)] dX9_tellIn_4 (by decide) rfl ?_
  obtain ⟨z16, hz16, h⟩ := nt_R_b1 h
  refine nt_sub [2, 3, 4, 5, 1, 0] rfl ?_
  refine tbMo_tellIn_6 hw X x1 x2 x3 (Qx := fun z => z = z16) (fun v14 g15 hq => ?_) nt_fu (0 : Int32) (0 : Int32) g ⟨_, hz16, rfl⟩
  subst hq
  refine nt_iload X dX9_tellIn_70 4 rfl ?_
  have h := nt_R_some h
  exact nt_iret X dX9_tellIn_72 h
def bMo_pass_38 (x1 : Int32) (x2 : Int32) (g : nt_T) : Option ((Int32 × nt_T) ⊕ ((nt_T))) :=
  (if (g 0 11) ≤ x2 then
    (some (.inr g))
  else
    (nt_gd (nt_in (((8 : Int32) * x1) + x2) 72) <| nt_b1 (fMo_stays x2 g) fun r6 => (if ((g 0 18) - (g 12 (Int32.toNatClampNeg (((8 : Int32) * x1) + x2)))) < r6 then
    (nt_lt (x2 + (1 : Int32)) fun v8 => some (.inl (v8, g)))
  else
    (nt_gd (nt_in x1 9) <| nt_gd (nt_in x1 9) <| nt_lt (nt_st g 10 (Int32.toNatClampNeg x1) ((g 10 (Int32.toNatClampNeg x1)) &&& (((1 : Int32) <<< (x2 &&& 31)) ^^^ (-1 : Int32)))) fun g11 => nt_lt (x2 + (1 : Int32)) fun v12 => some (.inl (v12, g11))))))
set_option maxRecDepth 100000 in
set_option maxHeartbeats 4000000 in
theorem tbMo_pass_38 {p : Program} {l : Launch} {e : Env} {s : State} {m : MethodId} {args : Array Value} {below : List Frame} {meth : Method} {c : Code} {w : nt_w} {A : Nat → Prop} (hw : nt_isM w) {Q : State → Prop} (X : nt_X cX9_pass 3 RX9 (some .int) w A p s m args meth c) (x1 : Int32)  {Qx : ((nt_T)) → Prop} (hE0 : ∀ (gy : nt_T), Qx gy → nt_G p l e (nt_rm 3) s m args below meth c w A 0 0 Q 3 90 [(0, .ref (nt_a w 0)), (1, .int x1)] [] gy) : ∀ (n : Nat) (x2 : Int32) (g : nt_T), nt_R (nt_it (fun z => bMo_pass_38 x1 z.1 z.2) n (x2, g)) Qx → nt_G p l e (nt_rm 3) s m args below meth c w A 0 0 Q 3 38 [(0, .ref (nt_a w 0)), (1, .int x1), (2, .int x2)] [] g := by
  intro n
  induction n with
  | zero =>
    intro x2 g h
    exact nt_R_none h
  | succ n ih =>
    intro x2 g h
    have h : nt_R (bMo_pass_38 x1 x2 g) (nt_Qz (fun z => bMo_pass_38 x1 z.1 z.2) n Qx) := nt_R_it h
    have hI : ∀ (y2 : Int32) (gy : nt_T), nt_Qz (fun z => bMo_pass_38 x1 z.1 z.2) n Qx (.inl (y2, gy)) → nt_G p l e (nt_rm 3) s m args below meth c w A 0 0 Q 3 38 [(0, .ref (nt_a w 0)), (1, .int x1), (2, .int y2)] [] gy := fun y2 gy q => ih y2 gy q
    have hE0 : ∀ (gy : nt_T), nt_Qz (fun z => bMo_pass_38 x1 z.1 z.2) n Qx (.inr gy) → nt_G p l e (nt_rm 3) s m args below meth c w A 0 0 Q 3 90 [(0, .ref (nt_a w 0)), (1, .int x1)] [] gy := hE0
    generalize nt_Qz (fun z => bMo_pass_38 x1 z.1 z.2) n Qx = Qz at h hI hE0
    unfold bMo_pass_38 at h
    refine nt_iload_n X dX9_pass_38 rfl 2 rfl ?_
    refine nt_aload_n X dX9_pass_39 rfl 0 rfl ?_
    refine nt_get X 0 inX9 (nt_lM hw (Nat.le_of_ble_eq_true rfl)) (nt_m0 hw) rfl (j := 11) (by decide) wd_633 (v := .int (g 0 11)) rfl dX9_pass_40 ?_
    obtain ⟨ht, hf⟩ := nt_R_if h
    refine nt_icmp_ge X 90 dX9_pass_43 (by decide) (fun q4 => ?_) (fun q4 => ?_)
    · have h := ht q4
      refine nt_sub [0, 1] rfl ?_
      have h := nt_R_some h
      exact hE0 g h
    · have h := hf q4
      refine nt_aload_n X dX9_pass_46 rfl 0 rfl ?_
      refine nt_get X 0 inX9 (nt_lM hw (Nat.le_of_ble_eq_true rfl)) (nt_m0 hw) rfl (j := 18) (by decide) wd_640 (v := .int (g 0 18)) rfl dX9_pass_47 ?_
      refine nt_aload_n X dX9_pass_50 rfl 0 rfl ?_
      refine nt_get X 0 inX9 (nt_lM hw (Nat.le_of_ble_eq_true rfl)) (nt_m0 hw) rfl (j := 16) (by decide) wd_638 (v := .ref (nt_a w 12)) rfl dX9_pass_51 ?_
      refine nt_bipush X dX9_pass_54 nt_cb_8 ?_
      refine nt_iload_n X dX9_pass_56 rfl 1 rfl ?_
      refine nt_imul X dX9_pass_57 ?_
      refine nt_iload_n X dX9_pass_58 rfl 2 rfl ?_
      refine nt_iadd X dX9_pass_59 ?_
      obtain ⟨q5, h⟩ := nt_R_gd h
      refine nt_iald X 12 0 (nt_lM hw (Nat.le_of_ble_eq_true rfl)) (nt_m12 hw) (nt_tM hw) q5 dX9_pass_60 ?_
      refine nt_isub X dX9_pass_61 ?_
      refine nt_aload_n X dX9_pass_62 rfl 0 rfl ?_
      refine nt_iload_n X dX9_pass_63 rfl 2 rfl ?_
      obtain ⟨r6, er6, h⟩ := nt_R_b1 h
      refine nt_cVi X (As := [.int x2]) 0 (nt_lM hw (Nat.le_of_ble_eq_true rfl)) (nt_m0 hw) rfl (cMo_stays hw er6) wd_770 wd_768 wd_769 wd_1079 wd_16 rfl hd_X9_stays ⟨Nat.le_of_ble_eq_true rfl, Nat.le_of_ble_eq_true rfl⟩ ⟨Nat.le_refl 0, Nat.le_refl 0⟩ (Nat.le_of_ble_eq_true rfl) rfl dX9_pass_64 ?_
      obtain ⟨ht, hf⟩ := nt_R_if h
      refine nt_icmp_lt X 84 dX9_pass_67 (by decide) (fun q7 => ?_) (fun q7 => ?_)
      · have h := ht q7
        obtain ⟨v8, ev8, h⟩ := nt_R_lt h
        refine nt_iinc X v8 [(2, .int v8), (0, .ref (nt_a w 0)), (1, .int x1)] dX9_pass_84 2 rfl (by rw [nt_ci_1]; exact ev8) (by decide) rfl ?_
        refine nt_goto X 38 dX9_pass_87 (by decide) ?_
        refine nt_sub [1, 2, 0] rfl ?_
        have h := nt_R_some h
        exact hI v8 g h
      · have h := hf q7
        refine nt_aload_n X dX9_pass_70 rfl 0 rfl ?_
        refine nt_get X 0 inX9 (nt_lM hw (Nat.le_of_ble_eq_true rfl)) (nt_m0 hw) rfl (j := 14) (by decide) wd_636 (v := .ref (nt_a w 10)) rfl dX9_pass_71 ?_
        refine nt_iload_n X dX9_pass_74 rfl 1 rfl ?_
        refine nt_dup2 X dX9_pass_75 rfl rfl ?_
        obtain ⟨q9, h⟩ := nt_R_gd h
        refine nt_iald X 10 0 (nt_lM hw (Nat.le_of_ble_eq_true rfl)) (nt_m10 hw) (nt_tM hw) q9 dX9_pass_76 ?_
        refine nt_iconst X dX9_pass_77 nt_ci_1 ?_
        refine nt_iload_n X dX9_pass_78 rfl 2 rfl ?_
        refine nt_ishl X dX9_pass_79 ?_
        refine nt_iconst X dX9_pass_80 nt_ci_m1 ?_
        refine nt_ixor X dX9_pass_81 ?_
        refine nt_iand X dX9_pass_82 ?_
        obtain ⟨q10, h⟩ := nt_R_gd h
        refine nt_iast X 10 0 (nt_lM hw (Nat.le_of_ble_eq_true rfl)) (nt_m10 hw) (nt_tM hw) q10 dX9_pass_83 ?_
        obtain ⟨g11, eg11, h⟩ := nt_R_lt h
        refine nt_geq eg11 ?_
        obtain ⟨v12, ev12, h⟩ := nt_R_lt h
        refine nt_iinc X v12 [(2, .int v12), (0, .ref (nt_a w 0)), (1, .int x1)] dX9_pass_84 2 rfl (by rw [nt_ci_1]; exact ev12) (by decide) rfl ?_
        refine nt_goto X 38 dX9_pass_87 (by decide) ?_
        refine nt_sub [1, 2, 0] rfl ?_
        have h := nt_R_some h
        exact hI v12 g11 h
def bMo_pass_28 (x1 : Int32) (g : nt_T) : Option ((Int32 × nt_T) ⊕ ((nt_T))) :=
  (if (g 0 17) ≤ x1 then
    (some (.inr g))
  else
    ((nt_b1 (nt_it (fun z => bMo_pass_38 x1 z.1 z.2) nt_fu ((0 : Int32), g)) fun g13 => nt_lt (x1 + (1 : Int32)) fun v14 => some (.inl (v14, g13)))))
set_option maxRecDepth 100000 in
set_option maxHeartbeats 4000000 in
theorem tbMo_pass_28 {p : Program} {l : Launch} {e : Env} {s : State} {m : MethodId} {args : Array Value} {below : List Frame} {meth : Method} {c : Code} {w : nt_w} {A : Nat → Prop} (hw : nt_isM w) {Q : State → Prop} (X : nt_X cX9_pass 3 RX9 (some .int) w A p s m args meth c)  {Qx : ((nt_T)) → Prop} (hE0 : ∀ (gy : nt_T), Qx gy → nt_G p l e (nt_rm 3) s m args below meth c w A 0 0 Q 3 96 [(0, .ref (nt_a w 0))] [] gy) : ∀ (n : Nat) (x1 : Int32) (g : nt_T), nt_R (nt_it (fun z => bMo_pass_28 z.1 z.2) n (x1, g)) Qx → nt_G p l e (nt_rm 3) s m args below meth c w A 0 0 Q 3 28 [(0, .ref (nt_a w 0)), (1, .int x1)] [] g := by
  intro n
  induction n with
  | zero =>
    intro x1 g h
    exact nt_R_none h
  | succ n ih =>
    intro x1 g h
    have h : nt_R (bMo_pass_28 x1 g) (nt_Qz (fun z => bMo_pass_28 z.1 z.2) n Qx) := nt_R_it h
    have hI : ∀ (y1 : Int32) (gy : nt_T), nt_Qz (fun z => bMo_pass_28 z.1 z.2) n Qx (.inl (y1, gy)) → nt_G p l e (nt_rm 3) s m args below meth c w A 0 0 Q 3 28 [(0, .ref (nt_a w 0)), (1, .int y1)] [] gy := fun y1 gy q => ih y1 gy q
    have hE0 : ∀ (gy : nt_T), nt_Qz (fun z => bMo_pass_28 z.1 z.2) n Qx (.inr gy) → nt_G p l e (nt_rm 3) s m args below meth c w A 0 0 Q 3 96 [(0, .ref (nt_a w 0))] [] gy := hE0
    generalize nt_Qz (fun z => bMo_pass_28 z.1 z.2) n Qx = Qz at h hI hE0
    unfold bMo_pass_28 at h
    refine nt_iload_n X dX9_pass_28 rfl 1 rfl ?_
    refine nt_aload_n X dX9_pass_29 rfl 0 rfl ?_
    refine nt_get X 0 inX9 (nt_lM hw (Nat.le_of_ble_eq_true rfl)) (nt_m0 hw) rfl (j := 17) (by decide) wd_639 (v := .int (g 0 17)) rfl dX9_pass_30 ?_
    obtain ⟨ht, hf⟩ := nt_R_if h
    refine nt_icmp_ge X 96 dX9_pass_33 (by decide) (fun q3 => ?_) (fun q3 => ?_)
    · have h := ht q3
      refine nt_sub [0] rfl ?_
      have h := nt_R_some h
      exact hE0 g h
    · have h := hf q3
      refine nt_iconst X dX9_pass_36 nt_ci_0 ?_
      refine nt_istore_n X [(2, .int (0 : Int32)), (0, .ref (nt_a w 0)), (1, .int x1)] dX9_pass_37 rfl (by decide) rfl ?_
      obtain ⟨z15, hz15, h⟩ := nt_R_b1 h
      refine nt_sub [1, 2, 0] rfl ?_
      refine tbMo_pass_38 hw X x1 (Qx := fun z => z = z15) (fun g13 hq => ?_) nt_fu (0 : Int32) g ⟨_, hz15, rfl⟩
      subst hq
      obtain ⟨v14, ev14, h⟩ := nt_R_lt h
      refine nt_iinc X v14 [(1, .int v14), (0, .ref (nt_a w 0))] dX9_pass_90 1 rfl (by rw [nt_ci_1]; exact ev14) (by decide) rfl ?_
      refine nt_goto X 28 dX9_pass_93 (by decide) ?_
      refine nt_sub [1, 0] rfl ?_
      have h := nt_R_some h
      exact hI v14 g13 h
def jMo_pass_23 (s0 : Int32) (g : nt_T) : Option (Int32 × nt_T) :=
  nt_lt (nt_st g 0 18 s0) fun g2 => (nt_b1 (nt_it (fun z => bMo_pass_28 z.1 z.2) nt_fu ((0 : Int32), g2)) fun g16 => some ((g16 0 18), g16))
set_option maxRecDepth 100000 in
set_option maxHeartbeats 4000000 in
theorem tjMo_pass_23 {p : Program} {l : Launch} {e : Env} {s : State} {m : MethodId} {args : Array Value} {below : List Frame} {meth : Method} {c : Code} {w : nt_w} {A : Nat → Prop} (hw : nt_isM w) {r : Int32} {g2 : nt_T}  (X : nt_X cX9_pass 3 RX9 (some .int) w A p s m args meth c) (s0 : Int32) (g : nt_T) (h : nt_R (jMo_pass_23 s0 g) (fun z => z = (r, g2))) : nt_G p l e (nt_rm 3) s m args below meth c w A 0 0 (nt_Qi w A below args s r g2) 3 23 [(0, .ref (nt_a w 0))] [.int s0, .ref (nt_a w 0)] g := by
  unfold jMo_pass_23 at h
  refine nt_put X 0 inX9 (nt_lM hw (Nat.le_of_ble_eq_true rfl)) (nt_m0 hw) rfl (j := 18) (by decide) wd_640 tyX9 tyX9_ok nmX9 rfl (ty := .int) rfl rfl rfl (fun _ => Nat.le_of_ble_eq_true rfl) (fun _ => rfl) dX9_pass_23 ?_
  obtain ⟨g2, eg2, h⟩ := nt_R_lt h
  refine nt_geq eg2 ?_
  refine nt_iconst X dX9_pass_26 nt_ci_0 ?_
  refine nt_istore_n X [(1, .int (0 : Int32)), (0, .ref (nt_a w 0))] dX9_pass_27 rfl (by decide) rfl ?_
  obtain ⟨z17, hz17, h⟩ := nt_R_b1 h
  refine nt_sub [1, 0] rfl ?_
  refine tbMo_pass_28 hw X  (Qx := fun z => z = z17) (fun g16 hq => ?_) nt_fu (0 : Int32) g2 ⟨_, hz17, rfl⟩
  subst hq
  refine nt_aload_n X dX9_pass_96 rfl 0 rfl ?_
  refine nt_get X 0 inX9 (nt_lM hw (Nat.le_of_ble_eq_true rfl)) (nt_m0 hw) rfl (j := 18) (by decide) wd_640 (v := .int (g16 0 18)) rfl dX9_pass_97 ?_
  have h := nt_R_some h
  exact nt_iret X dX9_pass_100 h
def fMo_pass (g : nt_T) : Option (Int32 × nt_T) :=
  (if (999 : Int32) ≤ (g 0 18) then
    (jMo_pass_23 (999 : Int32) g)
  else
    (jMo_pass_23 ((g 0 18) + (1 : Int32)) g))
set_option maxRecDepth 100000 in
set_option maxHeartbeats 4000000 in
theorem cMo_pass {l : Launch} {w : nt_w} (hw : nt_isM w) {g : nt_T} {r : Int32} {g2 : nt_T} (hf : fMo_pass g = some (r, g2)) : nt_Mi l w yX9_pass cX9_pass 3 (some .int) 3 [.ref (nt_a w 0)] g r g2 := by
  refine nt_Mi_of (by decide) (Nat.le_of_ble_eq_true rfl) (fun p e s m args below meth c A X => ?_)
  have X : nt_X cX9_pass 3 RX9 (some .int) w A p s m args meth c := X
  have h : nt_R (fMo_pass g) (fun z => z = (r, g2)) := ⟨_, hf, rfl⟩
  unfold fMo_pass at h
  show nt_G p l e (nt_rm 3) s m args below meth c w A 0 0 (nt_Qi w A below args s r g2) 3 0 [(0, .ref (nt_a w 0))] [] g
  refine nt_aload_n X dX9_pass_0 rfl 0 rfl ?_
  refine nt_aload_n X dX9_pass_1 rfl 0 rfl ?_
  refine nt_get X 0 inX9 (nt_lM hw (Nat.le_of_ble_eq_true rfl)) (nt_m0 hw) rfl (j := 18) (by decide) wd_640 (v := .int (g 0 18)) rfl dX9_pass_2 ?_
  refine nt_sipush X dX9_pass_5 nt_cs_999 ?_
  obtain ⟨ht, hf⟩ := nt_R_if h
  refine nt_icmp_ge X 20 dX9_pass_8 (by decide) (fun q1 => ?_) (fun q1 => ?_)
  · have h := ht q1
    refine nt_sipush X dX9_pass_20 nt_cs_999 ?_
    exact tjMo_pass_23 hw X (999 : Int32) g h
  · have h := hf q1
    refine nt_aload_n X dX9_pass_11 rfl 0 rfl ?_
    refine nt_get X 0 inX9 (nt_lM hw (Nat.le_of_ble_eq_true rfl)) (nt_m0 hw) rfl (j := 18) (by decide) wd_640 (v := .int (g 0 18)) rfl dX9_pass_12 ?_
    refine nt_iconst X dX9_pass_15 nt_ci_1 ?_
    refine nt_iadd X dX9_pass_16 ?_
    refine nt_goto X 23 dX9_pass_17 (by decide) ?_
    exact tjMo_pass_23 hw X ((g 0 18) + (1 : Int32)) g h
def bMo_laysAside_2 (x1 : Int32) (g : nt_T) : Option ((Int32 × nt_T) ⊕ ((nt_T))) :=
  (if (8 : Int32) ≤ x1 then
    (some (.inr g))
  else
    (nt_gd (nt_in x1 9) <| nt_gd (nt_in x1 9) <| nt_lt (nt_st g 13 (Int32.toNatClampNeg x1) (g 10 (Int32.toNatClampNeg x1))) fun g4 => nt_gd (nt_in x1 9) <| nt_gd (nt_in x1 9) <| nt_lt (nt_st g4 14 (Int32.toNatClampNeg x1) (g4 11 (Int32.toNatClampNeg x1))) fun g7 => nt_lt (x1 + (1 : Int32)) fun v8 => some (.inl (v8, g7))))
set_option maxRecDepth 100000 in
set_option maxHeartbeats 4000000 in
theorem tbMo_laysAside_2 {p : Program} {l : Launch} {e : Env} {s : State} {m : MethodId} {args : Array Value} {below : List Frame} {meth : Method} {c : Code} {w : nt_w} {A : Nat → Prop} (hw : nt_isM w) {Q : State → Prop} (X : nt_X cX9_laysAside 2 RX9 none w A p s m args meth c)  {Qx : ((nt_T)) → Prop} (hE0 : ∀ (gy : nt_T), Qx gy → nt_G p l e (nt_rm 1) s m args below meth c w A 0 0 Q 2 38 [(0, .ref (nt_a w 0))] [] gy) : ∀ (n : Nat) (x1 : Int32) (g : nt_T), nt_R (nt_it (fun z => bMo_laysAside_2 z.1 z.2) n (x1, g)) Qx → nt_G p l e (nt_rm 1) s m args below meth c w A 0 0 Q 2 2 [(0, .ref (nt_a w 0)), (1, .int x1)] [] g := by
  intro n
  induction n with
  | zero =>
    intro x1 g h
    exact nt_R_none h
  | succ n ih =>
    intro x1 g h
    have h : nt_R (bMo_laysAside_2 x1 g) (nt_Qz (fun z => bMo_laysAside_2 z.1 z.2) n Qx) := nt_R_it h
    have hI : ∀ (y1 : Int32) (gy : nt_T), nt_Qz (fun z => bMo_laysAside_2 z.1 z.2) n Qx (.inl (y1, gy)) → nt_G p l e (nt_rm 1) s m args below meth c w A 0 0 Q 2 2 [(0, .ref (nt_a w 0)), (1, .int y1)] [] gy := fun y1 gy q => ih y1 gy q
    have hE0 : ∀ (gy : nt_T), nt_Qz (fun z => bMo_laysAside_2 z.1 z.2) n Qx (.inr gy) → nt_G p l e (nt_rm 1) s m args below meth c w A 0 0 Q 2 38 [(0, .ref (nt_a w 0))] [] gy := hE0
    generalize nt_Qz (fun z => bMo_laysAside_2 z.1 z.2) n Qx = Qz at h hI hE0
    unfold bMo_laysAside_2 at h
    refine nt_iload_n X dX9_laysAside_2 rfl 1 rfl ?_
    refine nt_bipush X dX9_laysAside_3 nt_cb_8 ?_
    obtain ⟨ht, hf⟩ := nt_R_if h
    refine nt_icmp_ge X 38 dX9_laysAside_5 (by decide) (fun q1 => ?_) (fun q1 => ?_)
    · have h := ht q1
      refine nt_sub [0] rfl ?_
      have h := nt_R_some h
      exact hE0 g h
    · have h := hf q1
      refine nt_aload_n X dX9_laysAside_8 rfl 0 rfl ?_
      refine nt_get X 0 inX9 (nt_lM hw (Nat.le_of_ble_eq_true rfl)) (nt_m0 hw) rfl (j := 35) (by decide) wd_657 (v := .ref (nt_a w 13)) rfl dX9_laysAside_9 ?_
      refine nt_iload_n X dX9_laysAside_12 rfl 1 rfl ?_
      refine nt_aload_n X dX9_laysAside_13 rfl 0 rfl ?_
      refine nt_get X 0 inX9 (nt_lM hw (Nat.le_of_ble_eq_true rfl)) (nt_m0 hw) rfl (j := 14) (by decide) wd_636 (v := .ref (nt_a w 10)) rfl dX9_laysAside_14 ?_
      refine nt_iload_n X dX9_laysAside_17 rfl 1 rfl ?_
      obtain ⟨q2, h⟩ := nt_R_gd h
      refine nt_iald X 10 0 (nt_lM hw (Nat.le_of_ble_eq_true rfl)) (nt_m10 hw) (nt_tM hw) q2 dX9_laysAside_18 ?_
      obtain ⟨q3, h⟩ := nt_R_gd h
      refine nt_iast X 13 0 (nt_lM hw (Nat.le_of_ble_eq_true rfl)) (nt_m13 hw) (nt_tM hw) q3 dX9_laysAside_19 ?_
      obtain ⟨g4, eg4, h⟩ := nt_R_lt h
      refine nt_geq eg4 ?_
      refine nt_aload_n X dX9_laysAside_20 rfl 0 rfl ?_
      refine nt_get X 0 inX9 (nt_lM hw (Nat.le_of_ble_eq_true rfl)) (nt_m0 hw) rfl (j := 36) (by decide) wd_658 (v := .ref (nt_a w 14)) rfl dX9_laysAside_21 ?_
      refine nt_iload_n X dX9_laysAside_24 rfl 1 rfl ?_
      refine nt_aload_n X dX9_laysAside_25 rfl 0 rfl ?_
      refine nt_get X 0 inX9 (nt_lM hw (Nat.le_of_ble_eq_true rfl)) (nt_m0 hw) rfl (j := 15) (by decide) wd_637 (v := .ref (nt_a w 11)) rfl dX9_laysAside_26 ?_
      refine nt_iload_n X dX9_laysAside_29 rfl 1 rfl ?_
      obtain ⟨q5, h⟩ := nt_R_gd h
      refine nt_iald X 11 0 (nt_lM hw (Nat.le_of_ble_eq_true rfl)) (nt_m11 hw) (nt_tM hw) q5 dX9_laysAside_30 ?_
      obtain ⟨q6, h⟩ := nt_R_gd h
      refine nt_iast X 14 0 (nt_lM hw (Nat.le_of_ble_eq_true rfl)) (nt_m14 hw) (nt_tM hw) q6 dX9_laysAside_31 ?_
      obtain ⟨g7, eg7, h⟩ := nt_R_lt h
      refine nt_geq eg7 ?_
      obtain ⟨v8, ev8, h⟩ := nt_R_lt h
      refine nt_iinc X v8 [(1, .int v8), (0, .ref (nt_a w 0))] dX9_laysAside_32 1 rfl (by rw [nt_ci_1]; exact ev8) (by decide) rfl ?_
      refine nt_goto X 2 dX9_laysAside_35 (by decide) ?_
      refine nt_sub [1, 0] rfl ?_
      have h := nt_R_some h
      exact hI v8 g7 h
def bMo_laysAside_40 (x1 : Int32) (g : nt_T) : Option ((Int32 × nt_T) ⊕ ((nt_T))) :=
  (if (64 : Int32) ≤ x1 then
    (some (.inr g))
  else
    (nt_gd (nt_in x1 72) <| nt_gd (nt_in x1 72) <| nt_lt (nt_st g 15 (Int32.toNatClampNeg x1) (g 12 (Int32.toNatClampNeg x1))) fun g13 => nt_lt (x1 + (1 : Int32)) fun v14 => some (.inl (v14, g13))))
set_option maxRecDepth 100000 in
set_option maxHeartbeats 4000000 in
theorem tbMo_laysAside_40 {p : Program} {l : Launch} {e : Env} {s : State} {m : MethodId} {args : Array Value} {below : List Frame} {meth : Method} {c : Code} {w : nt_w} {A : Nat → Prop} (hw : nt_isM w) {Q : State → Prop} (X : nt_X cX9_laysAside 2 RX9 none w A p s m args meth c)  {Qx : ((nt_T)) → Prop} (hE0 : ∀ (gy : nt_T), Qx gy → nt_G p l e (nt_rm 1) s m args below meth c w A 0 0 Q 2 64 [(0, .ref (nt_a w 0))] [] gy) : ∀ (n : Nat) (x1 : Int32) (g : nt_T), nt_R (nt_it (fun z => bMo_laysAside_40 z.1 z.2) n (x1, g)) Qx → nt_G p l e (nt_rm 1) s m args below meth c w A 0 0 Q 2 40 [(0, .ref (nt_a w 0)), (1, .int x1)] [] g := by
  intro n
  induction n with
  | zero =>
    intro x1 g h
    exact nt_R_none h
  | succ n ih =>
    intro x1 g h
    have h : nt_R (bMo_laysAside_40 x1 g) (nt_Qz (fun z => bMo_laysAside_40 z.1 z.2) n Qx) := nt_R_it h
    have hI : ∀ (y1 : Int32) (gy : nt_T), nt_Qz (fun z => bMo_laysAside_40 z.1 z.2) n Qx (.inl (y1, gy)) → nt_G p l e (nt_rm 1) s m args below meth c w A 0 0 Q 2 40 [(0, .ref (nt_a w 0)), (1, .int y1)] [] gy := fun y1 gy q => ih y1 gy q
    have hE0 : ∀ (gy : nt_T), nt_Qz (fun z => bMo_laysAside_40 z.1 z.2) n Qx (.inr gy) → nt_G p l e (nt_rm 1) s m args below meth c w A 0 0 Q 2 64 [(0, .ref (nt_a w 0))] [] gy := hE0
    generalize nt_Qz (fun z => bMo_laysAside_40 z.1 z.2) n Qx = Qz at h hI hE0
    unfold bMo_laysAside_40 at h
    refine nt_iload_n X dX9_laysAside_40 rfl 1 rfl ?_
    refine nt_bipush X dX9_laysAside_41 nt_cb_64 ?_
    obtain ⟨ht, hf⟩ := nt_R_if h
    refine nt_icmp_ge X 64 dX9_laysAside_43 (by decide) (fun q10 => ?_) (fun q10 => ?_)
    · have h := ht q10
      refine nt_sub [0] rfl ?_
      have h := nt_R_some h
      exact hE0 g h
    · have h := hf q10
      refine nt_aload_n X dX9_laysAside_46 rfl 0 rfl ?_
      refine nt_get X 0 inX9 (nt_lM hw (Nat.le_of_ble_eq_true rfl)) (nt_m0 hw) rfl (j := 37) (by decide) wd_659 (v := .ref (nt_a w 15)) rfl dX9_laysAside_47 ?_
      refine nt_iload_n X dX9_laysAside_50 rfl 1 rfl ?_
      refine nt_aload_n X dX9_laysAside_51 rfl 0 rfl ?_
      refine nt_get X 0 inX9 (nt_lM hw (Nat.le_of_ble_eq_true rfl)) (nt_m0 hw) rfl (j := 16) (by decide) wd_638 (v := .ref (nt_a w 12)) rfl dX9_laysAside_52 ?_
      refine nt_iload_n X dX9_laysAside_55 rfl 1 rfl ?_
      obtain ⟨q11, h⟩ := nt_R_gd h
      refine nt_iald X 12 0 (nt_lM hw (Nat.le_of_ble_eq_true rfl)) (nt_m12 hw) (nt_tM hw) q11 dX9_laysAside_56 ?_
      obtain ⟨q12, h⟩ := nt_R_gd h
      refine nt_iast X 15 0 (nt_lM hw (Nat.le_of_ble_eq_true rfl)) (nt_m15 hw) (nt_tM hw) q12 dX9_laysAside_57 ?_
      obtain ⟨g13, eg13, h⟩ := nt_R_lt h
      refine nt_geq eg13 ?_
      obtain ⟨v14, ev14, h⟩ := nt_R_lt h
      refine nt_iinc X v14 [(1, .int v14), (0, .ref (nt_a w 0))] dX9_laysAside_58 1 rfl (by rw [nt_ci_1]; exact ev14) (by decide) rfl ?_
      refine nt_goto X 40 dX9_laysAside_61 (by decide) ?_
      refine nt_sub [1, 0] rfl ?_
      have h := nt_R_some h
      exact hI v14 g13 h
def fMo_laysAside (g : nt_T) : Option (nt_T) :=
  (nt_b1 (nt_it (fun z => bMo_laysAside_2 z.1 z.2) nt_fu ((0 : Int32), g)) fun g9 => (nt_b1 (nt_it (fun z => bMo_laysAside_40 z.1 z.2) nt_fu ((0 : Int32), g9)) fun g15 => nt_lt (nt_st g15 0 38 (g15 0 18)) fun g16 => some g16))
set_option maxRecDepth 100000 in
set_option maxHeartbeats 4000000 in
theorem cMo_laysAside {l : Launch} {w : nt_w} (hw : nt_isM w) {g : nt_T} {g2 : nt_T} (hf : fMo_laysAside g = some g2) : nt_Mv l w yX9_laysAside cX9_laysAside 2 none 1 [.ref (nt_a w 0)] g g2 := by
  refine nt_Mv_of (by decide) (Nat.le_of_ble_eq_true rfl) (fun p e s m args below meth c A X => ?_)
  have X : nt_X cX9_laysAside 2 RX9 none w A p s m args meth c := X
  have h : nt_R (fMo_laysAside g) (fun z => z = g2) := ⟨_, hf, rfl⟩
  unfold fMo_laysAside at h
  show nt_G p l e (nt_rm 1) s m args below meth c w A 0 0 (nt_Qv w A below args s g2) 2 0 [(0, .ref (nt_a w 0))] [] g
  refine nt_iconst X dX9_laysAside_0 nt_ci_0 ?_
  refine nt_istore_n X [(1, .int (0 : Int32)), (0, .ref (nt_a w 0))] dX9_laysAside_1 rfl (by decide) rfl ?_
  obtain ⟨z18, hz18, h⟩ := nt_R_b1 h
  refine nt_sub [1, 0] rfl ?_
  refine tbMo_laysAside_2 hw X  (Qx := fun z => z = z18) (fun g9 hq => ?_) nt_fu (0 : Int32) g ⟨_, hz18, rfl⟩
  subst hq
  refine nt_iconst X dX9_laysAside_38 nt_ci_0 ?_
  refine nt_istore_n X [(1, .int (0 : Int32)), (0, .ref (nt_a w 0))] dX9_laysAside_39 rfl (by decide) rfl ?_
  obtain ⟨z17, hz17, h⟩ := nt_R_b1 h
  refine nt_sub [1, 0] rfl ?_
  refine tbMo_laysAside_40 hw X  (Qx := fun z => z = z17) (fun g15 hq => ?_) nt_fu (0 : Int32) g9 ⟨_, hz17, rfl⟩
  subst hq
  refine nt_aload_n X dX9_laysAside_64 rfl 0 rfl ?_
  refine nt_aload_n X dX9_laysAside_65 rfl 0 rfl ?_
  refine nt_get X 0 inX9 (nt_lM hw (Nat.le_of_ble_eq_true rfl)) (nt_m0 hw) rfl (j := 18) (by decide) wd_640 (v := .int (g15 0 18)) rfl dX9_laysAside_66 ?_
  refine nt_put X 0 inX9 (nt_lM hw (Nat.le_of_ble_eq_true rfl)) (nt_m0 hw) rfl (j := 38) (by decide) wd_660 tyX9 tyX9_ok nmX9 rfl (ty := .int) rfl rfl rfl (fun _ => Nat.le_of_ble_eq_true rfl) (fun _ => rfl) dX9_laysAside_69 ?_
  obtain ⟨g16, eg16, h⟩ := nt_R_lt h
  refine nt_geq eg16 ?_
  have h := nt_R_some h
  exact nt_vret X dX9_laysAside_72 h
def bMo_laysBack_2 (x1 : Int32) (g : nt_T) : Option ((Int32 × nt_T) ⊕ ((nt_T))) :=
  (if (8 : Int32) ≤ x1 then
    (some (.inr g))
  else
    (nt_gd (nt_in x1 9) <| nt_gd (nt_in x1 9) <| nt_lt (nt_st g 10 (Int32.toNatClampNeg x1) (g 13 (Int32.toNatClampNeg x1))) fun g4 => nt_gd (nt_in x1 9) <| nt_gd (nt_in x1 9) <| nt_lt (nt_st g4 11 (Int32.toNatClampNeg x1) (g4 14 (Int32.toNatClampNeg x1))) fun g7 => nt_lt (x1 + (1 : Int32)) fun v8 => some (.inl (v8, g7))))
set_option maxRecDepth 100000 in
set_option maxHeartbeats 4000000 in
theorem tbMo_laysBack_2 {p : Program} {l : Launch} {e : Env} {s : State} {m : MethodId} {args : Array Value} {below : List Frame} {meth : Method} {c : Code} {w : nt_w} {A : Nat → Prop} (hw : nt_isM w) {Q : State → Prop} (X : nt_X cX9_laysBack 2 RX9 none w A p s m args meth c)  {Qx : ((nt_T)) → Prop} (hE0 : ∀ (gy : nt_T), Qx gy → nt_G p l e (nt_rm 1) s m args below meth c w A 0 0 Q 2 38 [(0, .ref (nt_a w 0))] [] gy) : ∀ (n : Nat) (x1 : Int32) (g : nt_T), nt_R (nt_it (fun z => bMo_laysBack_2 z.1 z.2) n (x1, g)) Qx → nt_G p l e (nt_rm 1) s m args below meth c w A 0 0 Q 2 2 [(0, .ref (nt_a w 0)), (1, .int x1)] [] g := by
  intro n
  induction n with
  | zero =>
    intro x1 g h
    exact nt_R_none h
  | succ n ih =>
    intro x1 g h
    have h : nt_R (bMo_laysBack_2 x1 g) (nt_Qz (fun z => bMo_laysBack_2 z.1 z.2) n Qx) := nt_R_it h
    have hI : ∀ (y1 : Int32) (gy : nt_T), nt_Qz (fun z => bMo_laysBack_2 z.1 z.2) n Qx (.inl (y1, gy)) → nt_G p l e (nt_rm 1) s m args below meth c w A 0 0 Q 2 2 [(0, .ref (nt_a w 0)), (1, .int y1)] [] gy := fun y1 gy q => ih y1 gy q
    have hE0 : ∀ (gy : nt_T), nt_Qz (fun z => bMo_laysBack_2 z.1 z.2) n Qx (.inr gy) → nt_G p l e (nt_rm 1) s m args below meth c w A 0 0 Q 2 38 [(0, .ref (nt_a w 0))] [] gy := hE0
    generalize nt_Qz (fun z => bMo_laysBack_2 z.1 z.2) n Qx = Qz at h hI hE0
    unfold bMo_laysBack_2 at h
    refine nt_iload_n X dX9_laysBack_2 rfl 1 rfl ?_
    refine nt_bipush X dX9_laysBack_3 nt_cb_8 ?_
    obtain ⟨ht, hf⟩ := nt_R_if h
    refine nt_icmp_ge X 38 dX9_laysBack_5 (by decide) (fun q1 => ?_) (fun q1 => ?_)
    · have h := ht q1
      refine nt_sub [0] rfl ?_
      have h := nt_R_some h
      exact hE0 g h
    · have h := hf q1
      refine nt_aload_n X dX9_laysBack_8 rfl 0 rfl ?_
      refine nt_get X 0 inX9 (nt_lM hw (Nat.le_of_ble_eq_true rfl)) (nt_m0 hw) rfl (j := 14) (by decide) wd_636 (v := .ref (nt_a w 10)) rfl dX9_laysBack_9 ?_
      refine nt_iload_n X dX9_laysBack_12 rfl 1 rfl ?_
      refine nt_aload_n X dX9_laysBack_13 rfl 0 rfl ?_
      refine nt_get X 0 inX9 (nt_lM hw (Nat.le_of_ble_eq_true rfl)) (nt_m0 hw) rfl (j := 35) (by decide) wd_657 (v := .ref (nt_a w 13)) rfl dX9_laysBack_14 ?_
      refine nt_iload_n X dX9_laysBack_17 rfl 1 rfl ?_
      obtain ⟨q2, h⟩ := nt_R_gd h
      refine nt_iald X 13 0 (nt_lM hw (Nat.le_of_ble_eq_true rfl)) (nt_m13 hw) (nt_tM hw) q2 dX9_laysBack_18 ?_
      obtain ⟨q3, h⟩ := nt_R_gd h
      refine nt_iast X 10 0 (nt_lM hw (Nat.le_of_ble_eq_true rfl)) (nt_m10 hw) (nt_tM hw) q3 dX9_laysBack_19 ?_
      obtain ⟨g4, eg4, h⟩ := nt_R_lt h
      refine nt_geq eg4 ?_
      refine nt_aload_n X dX9_laysBack_20 rfl 0 rfl ?_
      refine nt_get X 0 inX9 (nt_lM hw (Nat.le_of_ble_eq_true rfl)) (nt_m0 hw) rfl (j := 15) (by decide) wd_637 (v := .ref (nt_a w 11)) rfl dX9_laysBack_21 ?_
      refine nt_iload_n X dX9_laysBack_24 rfl 1 rfl ?_
      refine nt_aload_n X dX9_laysBack_25 rfl 0 rfl ?_
      refine nt_get X 0 inX9 (nt_lM hw (Nat.le_of_ble_eq_true rfl)) (nt_m0 hw) rfl (j := 36) (by decide) wd_658 (v := .ref (nt_a w 14)) rfl dX9_laysBack_26 ?_
      refine nt_iload_n X dX9_laysBack_29 rfl 1 rfl ?_
      obtain ⟨q5, h⟩ := nt_R_gd h
      refine nt_iald X 14 0 (nt_lM hw (Nat.le_of_ble_eq_true rfl)) (nt_m14 hw) (nt_tM hw) q5 dX9_laysBack_30 ?_
      obtain ⟨q6, h⟩ := nt_R_gd h
      refine nt_iast X 11 0 (nt_lM hw (Nat.le_of_ble_eq_true rfl)) (nt_m11 hw) (nt_tM hw) q6 dX9_laysBack_31 ?_
      obtain ⟨g7, eg7, h⟩ := nt_R_lt h
      refine nt_geq eg7 ?_
      obtain ⟨v8, ev8, h⟩ := nt_R_lt h
      refine nt_iinc X v8 [(1, .int v8), (0, .ref (nt_a w 0))] dX9_laysBack_32 1 rfl (by rw [nt_ci_1]; exact ev8) (by decide) rfl ?_
      refine nt_goto X 2 dX9_laysBack_35 (by decide) ?_
      refine nt_sub [1, 0] rfl ?_
      have h := nt_R_some h
      exact hI v8 g7 h
def bMo_laysBack_40 (x1 : Int32) (g : nt_T) : Option ((Int32 × nt_T) ⊕ ((nt_T))) :=
  (if (64 : Int32) ≤ x1 then
    (some (.inr g))
  else
    (nt_gd (nt_in x1 72) <| nt_gd (nt_in x1 72) <| nt_lt (nt_st g 12 (Int32.toNatClampNeg x1) (g 15 (Int32.toNatClampNeg x1))) fun g13 => nt_lt (x1 + (1 : Int32)) fun v14 => some (.inl (v14, g13))))
set_option maxRecDepth 100000 in
set_option maxHeartbeats 4000000 in
theorem tbMo_laysBack_40 {p : Program} {l : Launch} {e : Env} {s : State} {m : MethodId} {args : Array Value} {below : List Frame} {meth : Method} {c : Code} {w : nt_w} {A : Nat → Prop} (hw : nt_isM w) {Q : State → Prop} (X : nt_X cX9_laysBack 2 RX9 none w A p s m args meth c)  {Qx : ((nt_T)) → Prop} (hE0 : ∀ (gy : nt_T), Qx gy → nt_G p l e (nt_rm 1) s m args below meth c w A 0 0 Q 2 64 [(0, .ref (nt_a w 0))] [] gy) : ∀ (n : Nat) (x1 : Int32) (g : nt_T), nt_R (nt_it (fun z => bMo_laysBack_40 z.1 z.2) n (x1, g)) Qx → nt_G p l e (nt_rm 1) s m args below meth c w A 0 0 Q 2 40 [(0, .ref (nt_a w 0)), (1, .int x1)] [] g := by
  intro n
  induction n with
  | zero =>
    intro x1 g h
    exact nt_R_none h
  | succ n ih =>
    intro x1 g h
    have h : nt_R (bMo_laysBack_40 x1 g) (nt_Qz (fun z => bMo_laysBack_40 z.1 z.2) n Qx) := nt_R_it h
    have hI : ∀ (y1 : Int32) (gy : nt_T), nt_Qz (fun z => bMo_laysBack_40 z.1 z.2) n Qx (.inl (y1, gy)) → nt_G p l e (nt_rm 1) s m args below meth c w A 0 0 Q 2 40 [(0, .ref (nt_a w 0)), (1, .int y1)] [] gy := fun y1 gy q => ih y1 gy q
    have hE0 : ∀ (gy : nt_T), nt_Qz (fun z => bMo_laysBack_40 z.1 z.2) n Qx (.inr gy) → nt_G p l e (nt_rm 1) s m args below meth c w A 0 0 Q 2 64 [(0, .ref (nt_a w 0))] [] gy := hE0
    generalize nt_Qz (fun z => bMo_laysBack_40 z.1 z.2) n Qx = Qz at h hI hE0
    unfold bMo_laysBack_40 at h
    refine nt_iload_n X dX9_laysBack_40 rfl 1 rfl ?_
    refine nt_bipush X dX9_laysBack_41 nt_cb_64 ?_
    obtain ⟨ht, hf⟩ := nt_R_if h
    refine nt_icmp_ge X 64 dX9_laysBack_43 (by decide) (fun q10 => ?_) (fun q10 => ?_)
    · have h := ht q10
      refine nt_sub [0] rfl ?_
      have h := nt_R_some h
      exact hE0 g h
    · have h := hf q10
      refine nt_aload_n X dX9_laysBack_46 rfl 0 rfl ?_
      refine nt_get X 0 inX9 (nt_lM hw (Nat.le_of_ble_eq_true rfl)) (nt_m0 hw) rfl (j := 16) (by decide) wd_638 (v := .ref (nt_a w 12)) rfl dX9_laysBack_47 ?_
      refine nt_iload_n X dX9_laysBack_50 rfl 1 rfl ?_
      refine nt_aload_n X dX9_laysBack_51 rfl 0 rfl ?_
      refine nt_get X 0 inX9 (nt_lM hw (Nat.le_of_ble_eq_true rfl)) (nt_m0 hw) rfl (j := 37) (by decide) wd_659 (v := .ref (nt_a w 15)) rfl dX9_laysBack_52 ?_
      refine nt_iload_n X dX9_laysBack_55 rfl 1 rfl ?_
      obtain ⟨q11, h⟩ := nt_R_gd h
      refine nt_iald X 15 0 (nt_lM hw (Nat.le_of_ble_eq_true rfl)) (nt_m15 hw) (nt_tM hw) q11 dX9_laysBack_56 ?_
      obtain ⟨q12, h⟩ := nt_R_gd h
      refine nt_iast X 12 0 (nt_lM hw (Nat.le_of_ble_eq_true rfl)) (nt_m12 hw) (nt_tM hw) q12 dX9_laysBack_57 ?_
      obtain ⟨g13, eg13, h⟩ := nt_R_lt h
      refine nt_geq eg13 ?_
      obtain ⟨v14, ev14, h⟩ := nt_R_lt h
      refine nt_iinc X v14 [(1, .int v14), (0, .ref (nt_a w 0))] dX9_laysBack_58 1 rfl (by rw [nt_ci_1]; exact ev14) (by decide) rfl ?_
      refine nt_goto X 40 dX9_laysBack_61 (by decide) ?_
      refine nt_sub [1, 0] rfl ?_
      have h := nt_R_some h
      exact hI v14 g13 h
def fMo_laysBack (g : nt_T) : Option (nt_T) :=
  (nt_b1 (nt_it (fun z => bMo_laysBack_2 z.1 z.2) nt_fu ((0 : Int32), g)) fun g9 => (nt_b1 (nt_it (fun z => bMo_laysBack_40 z.1 z.2) nt_fu ((0 : Int32), g9)) fun g15 => nt_lt (nt_st g15 0 18 (g15 0 38)) fun g16 => some g16))
set_option maxRecDepth 100000 in
set_option maxHeartbeats 4000000 in
theorem cMo_laysBack {l : Launch} {w : nt_w} (hw : nt_isM w) {g : nt_T} {g2 : nt_T} (hf : fMo_laysBack g = some g2) : nt_Mv l w yX9_laysBack cX9_laysBack 2 none 1 [.ref (nt_a w 0)] g g2 := by
  refine nt_Mv_of (by decide) (Nat.le_of_ble_eq_true rfl) (fun p e s m args below meth c A X => ?_)
  have X : nt_X cX9_laysBack 2 RX9 none w A p s m args meth c := X
  have h : nt_R (fMo_laysBack g) (fun z => z = g2) := ⟨_, hf, rfl⟩
  unfold fMo_laysBack at h
  show nt_G p l e (nt_rm 1) s m args below meth c w A 0 0 (nt_Qv w A below args s g2) 2 0 [(0, .ref (nt_a w 0))] [] g
  refine nt_iconst X dX9_laysBack_0 nt_ci_0 ?_
  refine nt_istore_n X [(1, .int (0 : Int32)), (0, .ref (nt_a w 0))] dX9_laysBack_1 rfl (by decide) rfl ?_
  obtain ⟨z18, hz18, h⟩ := nt_R_b1 h
  refine nt_sub [1, 0] rfl ?_
  refine tbMo_laysBack_2 hw X  (Qx := fun z => z = z18) (fun g9 hq => ?_) nt_fu (0 : Int32) g ⟨_, hz18, rfl⟩
  subst hq
  refine nt_iconst X dX9_laysBack_38 nt_ci_0 ?_
  refine nt_istore_n X [(1, .int (0 : Int32)), (0, .ref (nt_a w 0))] dX9_laysBack_39 rfl (by decide) rfl ?_
  obtain ⟨z17, hz17, h⟩ := nt_R_b1 h
  refine nt_sub [1, 0] rfl ?_
  refine tbMo_laysBack_40 hw X  (Qx := fun z => z = z17) (fun g15 hq => ?_) nt_fu (0 : Int32) g9 ⟨_, hz17, rfl⟩
  subst hq
  refine nt_aload_n X dX9_laysBack_64 rfl 0 rfl ?_
  refine nt_aload_n X dX9_laysBack_65 rfl 0 rfl ?_
  refine nt_get X 0 inX9 (nt_lM hw (Nat.le_of_ble_eq_true rfl)) (nt_m0 hw) rfl (j := 38) (by decide) wd_660 (v := .int (g15 0 38)) rfl dX9_laysBack_66 ?_
  refine nt_put X 0 inX9 (nt_lM hw (Nat.le_of_ble_eq_true rfl)) (nt_m0 hw) rfl (j := 18) (by decide) wd_640 tyX9 tyX9_ok nmX9 rfl (ty := .int) rfl rfl rfl (fun _ => Nat.le_of_ble_eq_true rfl) (fun _ => rfl) dX9_laysBack_69 ?_
  obtain ⟨g16, eg16, h⟩ := nt_R_lt h
  refine nt_geq eg16 ?_
  have h := nt_R_some h
  exact nt_vret X dX9_laysBack_72 h
def bMo_digit_5 (x1 : Int32) (x2 : Int32) (g : nt_T) (x3 : Int32) (x4 : Int32) : Option ((Int32 × Int32) ⊕ ((Int32))) :=
  (if x2 ≤ x4 then
    (some (.inr x3))
  else
    (nt_gd (decide (¬ x1 = 0)) <| nt_lt (x3 / x1) fun v3 => nt_lt (x4 + (1 : Int32)) fun v4 => some (.inl (v3, v4))))
set_option maxRecDepth 100000 in
set_option maxHeartbeats 4000000 in
theorem tbMo_digit_5 {p : Program} {l : Launch} {e : Env} {s : State} {m : MethodId} {args : Array Value} {below : List Frame} {meth : Method} {c : Code} {w : nt_w} {A : Nat → Prop} (hw : nt_isM w) {Q : State → Prop} (X : nt_X cX9_digit 5 RX9 (some .int) w A p s m args meth c) (x1 : Int32) (x2 : Int32) (g : nt_T)  {Qx : ((Int32)) → Prop} (hE0 : ∀ (y3 : Int32), Qx y3 → nt_G p l e (nt_rm 1) s m args below meth c w A 0 0 Q 5 21 [(1, .int x1), (2, .int x2), (3, .int y3)] [] g) : ∀ (n : Nat) (x3 : Int32) (x4 : Int32), nt_R (nt_it (fun z => bMo_digit_5 x1 x2 g z.1 z.2) n (x3, x4)) Qx → nt_G p l e (nt_rm 1) s m args below meth c w A 0 0 Q 5 5 [(1, .int x1), (2, .int x2), (3, .int x3), (4, .int x4)] [] g := by
  intro n
  induction n with
  | zero =>
    intro x3 x4 h
    exact nt_R_none h
  | succ n ih =>
    intro x3 x4 h
    have h : nt_R (bMo_digit_5 x1 x2 g x3 x4) (nt_Qz (fun z => bMo_digit_5 x1 x2 g z.1 z.2) n Qx) := nt_R_it h
    have hI : ∀ (y3 : Int32) (y4 : Int32), nt_Qz (fun z => bMo_digit_5 x1 x2 g z.1 z.2) n Qx (.inl (y3, y4)) → nt_G p l e (nt_rm 1) s m args below meth c w A 0 0 Q 5 5 [(1, .int x1), (2, .int x2), (3, .int y3), (4, .int y4)] [] g := fun y3 y4 q => ih y3 y4 q
    have hE0 : ∀ (y3 : Int32), nt_Qz (fun z => bMo_digit_5 x1 x2 g z.1 z.2) n Qx (.inr y3) → nt_G p l e (nt_rm 1) s m args below meth c w A 0 0 Q 5 21 [(1, .int x1), (2, .int x2), (3, .int y3)] [] g := hE0
    generalize nt_Qz (fun z => bMo_digit_5 x1 x2 g z.1 z.2) n Qx = Qz at h hI hE0
    unfold bMo_digit_5 at h
    refine nt_iload X dX9_digit_5 3 rfl ?_
    refine nt_iload_n X dX9_digit_7 rfl 1 rfl ?_
    obtain ⟨ht, hf⟩ := nt_R_if h
    refine nt_icmp_ge X 21 dX9_digit_8 (by decide) (fun q1 => ?_) (fun q1 => ?_)
    · have h := ht q1
      refine nt_sub [0, 1, 2] rfl ?_
      have h := nt_R_some h
      exact hE0 x3 h
    · have h := hf q1
      refine nt_iload_n X dX9_digit_11 rfl 2 rfl ?_
      refine nt_iload_n X dX9_digit_12 rfl 0 rfl ?_
      obtain ⟨q2, h⟩ := nt_R_gd h
      refine nt_idiv X dX9_digit_13 (of_decide_eq_true q2) ?_
      obtain ⟨v3, ev3, h⟩ := nt_R_lt h
      refine nt_topi ev3 ?_
      refine nt_istore_n X [(3, .int v3), (1, .int x1), (2, .int x2), (4, .int x4)] dX9_digit_14 rfl (by decide) rfl ?_
      obtain ⟨v4, ev4, h⟩ := nt_R_lt h
      refine nt_iinc X v4 [(4, .int v4), (3, .int v3), (1, .int x1), (2, .int x2)] dX9_digit_15 3 rfl (by rw [nt_ci_1]; exact ev4) (by decide) rfl ?_
      refine nt_goto X 5 dX9_digit_18 (by decide) ?_
      refine nt_sub [2, 3, 1, 0] rfl ?_
      have h := nt_R_some h
      exact hI v3 v4 h
def fMo_digit (x0 : Int32) (x1 : Int32) (x2 : Int32) (g : nt_T) : Option (Int32) :=
  (nt_b1 (nt_it (fun z => bMo_digit_5 x1 x2 g z.1 z.2) nt_fu (x0, (0 : Int32))) fun v5 => nt_gd (decide (¬ x1 = 0)) <| some (v5 - v5 / x1 * x1))
set_option maxRecDepth 100000 in
set_option maxHeartbeats 4000000 in
theorem cMo_digit {l : Launch} {w : nt_w} (hw : nt_isM w) {x0 : Int32} {x1 : Int32} {x2 : Int32} {g : nt_T} {r : Int32} (hf : fMo_digit x0 x1 x2 g = some r) : nt_Mi l w yX9_digit cX9_digit 5 (some .int) 1 [.int x0, .int x1, .int x2] g r g := by
  refine nt_Mi_of (by decide) (Nat.le_of_ble_eq_true rfl) (fun p e s m args below meth c A X => ?_)
  have X : nt_X cX9_digit 5 RX9 (some .int) w A p s m args meth c := X
  have hg : g = g := rfl
  have h : nt_R (fMo_digit x0 x1 x2 g) (fun z => z = r) := ⟨_, hf, rfl⟩
  unfold fMo_digit at h
  show nt_G p l e (nt_rm 1) s m args below meth c w A 0 0 (nt_Qi w A below args s r g) 5 0 [(0, .int x0), (1, .int x1), (2, .int x2)] [] g
  refine nt_iload_n X dX9_digit_0 rfl 0 rfl ?_
  refine nt_istore_n X [(3, .int x0), (0, .int x0), (1, .int x1), (2, .int x2)] dX9_digit_1 rfl (by decide) rfl ?_
  refine nt_iconst X dX9_digit_2 nt_ci_0 ?_
  refine nt_istore X [(4, .int (0 : Int32)), (3, .int x0), (0, .int x0), (1, .int x1), (2, .int x2)] dX9_digit_3 (by decide) rfl ?_
  obtain ⟨z7, hz7, h⟩ := nt_R_b1 h
  refine nt_sub [3, 4, 1, 0] rfl ?_
  refine tbMo_digit_5 hw X x1 x2 g (Qx := fun z => z = z7) (fun v5 hq => ?_) nt_fu x0 (0 : Int32) ⟨_, hz7, rfl⟩
  subst hq
  refine nt_iload_n X dX9_digit_21 rfl 2 rfl ?_
  refine nt_iload_n X dX9_digit_22 rfl 0 rfl ?_
  obtain ⟨q6, h⟩ := nt_R_gd h
  refine nt_irem X dX9_digit_23 (of_decide_eq_true q6) ?_
  have h := nt_R_some h
  exact nt_iret X dX9_digit_24 (nt_pe h hg)
def bMo_left_11 (g : nt_T) (x1 : Int32) (x2 : Int32) : Option ((Int32 × Int32) ⊕ ((Int32))) :=
  (if (g 0 17) ≤ x2 then
    (some (.inr x1))
  else
    (nt_b1 (fMo_known x2 g) fun r3 => nt_lt (x1 &&& (r3 ^^^ (-1 : Int32))) fun v4 => nt_lt (x2 + (1 : Int32)) fun v5 => some (.inl (v4, v5))))
set_option maxRecDepth 100000 in
set_option maxHeartbeats 4000000 in
theorem tbMo_left_11 {p : Program} {l : Launch} {e : Env} {s : State} {m : MethodId} {args : Array Value} {below : List Frame} {meth : Method} {c : Code} {w : nt_w} {A : Nat → Prop} (hw : nt_isM w) {Q : State → Prop} (X : nt_X cX9_left 3 RX9 (some .int) w A p s m args meth c) (g : nt_T)  {Qx : ((Int32)) → Prop} (hE0 : ∀ (y1 : Int32), Qx y1 → nt_G p l e (nt_rm 3) s m args below meth c w A 0 0 Q 3 35 [(0, .ref (nt_a w 0)), (1, .int y1)] [] g) : ∀ (n : Nat) (x1 : Int32) (x2 : Int32), nt_R (nt_it (fun z => bMo_left_11 g z.1 z.2) n (x1, x2)) Qx → nt_G p l e (nt_rm 3) s m args below meth c w A 0 0 Q 3 11 [(0, .ref (nt_a w 0)), (1, .int x1), (2, .int x2)] [] g := by
  intro n
  induction n with
  | zero =>
    intro x1 x2 h
    exact nt_R_none h
  | succ n ih =>
    intro x1 x2 h
    have h : nt_R (bMo_left_11 g x1 x2) (nt_Qz (fun z => bMo_left_11 g z.1 z.2) n Qx) := nt_R_it h
    have hI : ∀ (y1 : Int32) (y2 : Int32), nt_Qz (fun z => bMo_left_11 g z.1 z.2) n Qx (.inl (y1, y2)) → nt_G p l e (nt_rm 3) s m args below meth c w A 0 0 Q 3 11 [(0, .ref (nt_a w 0)), (1, .int y1), (2, .int y2)] [] g := fun y1 y2 q => ih y1 y2 q
    have hE0 : ∀ (y1 : Int32), nt_Qz (fun z => bMo_left_11 g z.1 z.2) n Qx (.inr y1) → nt_G p l e (nt_rm 3) s m args below meth c w A 0 0 Q 3 35 [(0, .ref (nt_a w 0)), (1, .int y1)] [] g := hE0
    generalize nt_Qz (fun z => bMo_left_11 g z.1 z.2) n Qx = Qz at h hI hE0
    unfold bMo_left_11 at h
    refine nt_iload_n X dX9_left_11 rfl 2 rfl ?_
    refine nt_aload_n X dX9_left_12 rfl 0 rfl ?_
    refine nt_get X 0 inX9 (nt_lM hw (Nat.le_of_ble_eq_true rfl)) (nt_m0 hw) rfl (j := 17) (by decide) wd_639 (v := .int (g 0 17)) rfl dX9_left_13 ?_
    obtain ⟨ht, hf⟩ := nt_R_if h
    refine nt_icmp_ge X 35 dX9_left_16 (by decide) (fun q2 => ?_) (fun q2 => ?_)
    · have h := ht q2
      refine nt_sub [0, 1] rfl ?_
      have h := nt_R_some h
      exact hE0 x1 h
    · have h := hf q2
      refine nt_iload_n X dX9_left_19 rfl 1 rfl ?_
      refine nt_aload_n X dX9_left_20 rfl 0 rfl ?_
      refine nt_iload_n X dX9_left_21 rfl 2 rfl ?_
      obtain ⟨r3, er3, h⟩ := nt_R_b1 h
      refine nt_cVi X (As := [.int x2]) 0 (nt_lM hw (Nat.le_of_ble_eq_true rfl)) (nt_m0 hw) rfl (cMo_known hw er3) wd_781 wd_779 wd_780 wd_1081 wd_16 rfl hd_X9_known ⟨Nat.le_of_ble_eq_true rfl, Nat.le_of_ble_eq_true rfl⟩ ⟨Nat.le_refl 0, Nat.le_refl 0⟩ (Nat.le_of_ble_eq_true rfl) rfl dX9_left_22 ?_
      refine nt_iconst X dX9_left_25 nt_ci_m1 ?_
      refine nt_ixor X dX9_left_26 ?_
      refine nt_iand X dX9_left_27 ?_
      obtain ⟨v4, ev4, h⟩ := nt_R_lt h
      refine nt_topi ev4 ?_
      refine nt_istore_n X [(1, .int v4), (0, .ref (nt_a w 0)), (2, .int x2)] dX9_left_28 rfl (by decide) rfl ?_
      obtain ⟨v5, ev5, h⟩ := nt_R_lt h
      refine nt_iinc X v5 [(2, .int v5), (1, .int v4), (0, .ref (nt_a w 0))] dX9_left_29 2 rfl (by rw [nt_ci_1]; exact ev5) (by decide) rfl ?_
      refine nt_goto X 11 dX9_left_32 (by decide) ?_
      refine nt_sub [2, 1, 0] rfl ?_
      have h := nt_R_some h
      exact hI v4 v5 h
def fMo_left (g : nt_T) : Option (Int32) :=
  nt_lt (((1 : Int32) <<< ((g 0 11) &&& 31)) - (1 : Int32)) fun v1 => (nt_b1 (nt_it (fun z => bMo_left_11 g z.1 z.2) nt_fu (v1, (0 : Int32))) fun v6 => some v6)
set_option maxRecDepth 100000 in
set_option maxHeartbeats 4000000 in
theorem cMo_left {l : Launch} {w : nt_w} (hw : nt_isM w) {g : nt_T} {r : Int32} (hf : fMo_left g = some r) : nt_Mi l w yX9_left cX9_left 3 (some .int) 3 [.ref (nt_a w 0)] g r g := by
  refine nt_Mi_of (by decide) (Nat.le_of_ble_eq_true rfl) (fun p e s m args below meth c A X => ?_)
  have X : nt_X cX9_left 3 RX9 (some .int) w A p s m args meth c := X
  have hg : g = g := rfl
  have h : nt_R (fMo_left g) (fun z => z = r) := ⟨_, hf, rfl⟩
  unfold fMo_left at h
  show nt_G p l e (nt_rm 3) s m args below meth c w A 0 0 (nt_Qi w A below args s r g) 3 0 [(0, .ref (nt_a w 0))] [] g
  refine nt_iconst X dX9_left_0 nt_ci_1 ?_
  refine nt_aload_n X dX9_left_1 rfl 0 rfl ?_
  refine nt_get X 0 inX9 (nt_lM hw (Nat.le_of_ble_eq_true rfl)) (nt_m0 hw) rfl (j := 11) (by decide) wd_633 (v := .int (g 0 11)) rfl dX9_left_2 ?_
  refine nt_ishl X dX9_left_5 ?_
  refine nt_iconst X dX9_left_6 nt_ci_1 ?_
  refine nt_isub X dX9_left_7 ?_
  obtain ⟨v1, ev1, h⟩ := nt_R_lt h
  refine nt_topi ev1 ?_
  refine nt_istore_n X [(1, .int v1), (0, .ref (nt_a w 0))] dX9_left_8 rfl (by decide) rfl ?_
  refine nt_iconst X dX9_left_9 nt_ci_0 ?_
  refine nt_istore_n X [(2, .int (0 : Int32)), (1, .int v1), (0, .ref (nt_a w 0))] dX9_left_10 rfl (by decide) rfl ?_
  obtain ⟨z7, hz7, h⟩ := nt_R_b1 h
  refine nt_sub [2, 1, 0] rfl ?_
  refine tbMo_left_11 hw X g (Qx := fun z => z = z7) (fun v6 hq => ?_) nt_fu v1 (0 : Int32) ⟨_, hz7, rfl⟩
  subst hq
  refine nt_iload_n X dX9_left_35 rfl 1 rfl ?_
  have h := nt_R_some h
  exact nt_iret X dX9_left_36 (nt_pe h hg)
def fMo_isSheet (x0 : Int32) (g : nt_T) : Option (Int32) :=
  nt_b1 (fMo_in (Int32.toInt64 x0) (0 : Int64) (3 : Int64) g) fun r1 => nt_gd (decide (narrow .boolean (.int r1) = .int r1)) <| some r1
set_option maxRecDepth 100000 in
set_option maxHeartbeats 4000000 in
theorem cMo_isSheet {l : Launch} {w : nt_w} (hw : nt_isM w) {x0 : Int32} {g : nt_T} {r : Int32} (hf : fMo_isSheet x0 g = some r) : nt_Mi l w yX9_isSheet cX9_isSheet 1 (some .boolean) 3 [.int x0] g r g := by
  refine nt_Mi_of (by decide) (Nat.le_of_ble_eq_true rfl) (fun p e s m args below meth c A X => ?_)
  have X : nt_X cX9_isSheet 1 RX9 (some .boolean) w A p s m args meth c := X
  have hg : g = g := rfl
  have h : nt_R (fMo_isSheet x0 g) (fun z => z = r) := ⟨_, hf, rfl⟩
  unfold fMo_isSheet at h
  show nt_G p l e (nt_rm 3) s m args below meth c w A 0 0 (nt_Qi w A below args s r g) 1 0 [(0, .int x0)] [] g
  refine nt_iload_n X dX9_isSheet_0 rfl 0 rfl ?_
  refine nt_i2l X dX9_isSheet_1 rfl ?_
  refine nt_lconst X dX9_isSheet_2 nt_cl_0 ?_
  refine nt_ldc2 X wd_758 dX9_isSheet_3 ?_
  obtain ⟨r1, er1, h⟩ := nt_R_b1 h
  refine nt_cSi X (As := [.long (Int32.toInt64 x0), .long (0 : Int64), .long (3 : Int64)]) (cMo_in hw er1) wd_732 wd_730 wd_731 wd_16 hd_X9_in ⟨Nat.le_of_ble_eq_true rfl, Nat.le_of_ble_eq_true rfl⟩ ⟨Nat.le_refl 0, Nat.le_refl 0⟩ (Nat.le_of_ble_eq_true rfl) rfl dX9_isSheet_6 ?_
  obtain ⟨q2, h⟩ := nt_R_gd h
  have h := nt_R_some h
  exact nt_zret X (of_decide_eq_true q2) dX9_isSheet_9 (nt_pe h hg)
def bMo_image_2 (x1 : Int32) (g : nt_T) : Option ((Int32 × nt_T) ⊕ ((nt_T))) :=
  (if (8 : Int32) ≤ x1 then
    (some (.inr g))
  else
    (nt_gd (nt_in x1 9) <| nt_gd (nt_in x1 9) <| nt_lt (nt_st g 18 (Int32.toNatClampNeg x1) (g 10 (Int32.toNatClampNeg x1))) fun g4 => nt_gd (nt_in x1 9) <| nt_gd (nt_in x1 9) <| nt_lt (nt_st g4 19 (Int32.toNatClampNeg x1) (g4 11 (Int32.toNatClampNeg x1))) fun g7 => nt_lt (x1 + (1 : Int32)) fun v8 => some (.inl (v8, g7))))
set_option maxRecDepth 100000 in
set_option maxHeartbeats 4000000 in
theorem tbMo_image_2 {p : Program} {l : Launch} {e : Env} {s : State} {m : MethodId} {args : Array Value} {below : List Frame} {meth : Method} {c : Code} {w : nt_w} {A : Nat → Prop} (hw : nt_isM w) {Q : State → Prop} (X : nt_X cX9_image 2 RX9 (some .int) w A p s m args meth c)  {Qx : ((nt_T)) → Prop} (hE0 : ∀ (gy : nt_T), Qx gy → nt_G p l e (nt_rm 1) s m args below meth c w A 0 0 Q 2 38 [(0, .ref (nt_a w 0))] [] gy) : ∀ (n : Nat) (x1 : Int32) (g : nt_T), nt_R (nt_it (fun z => bMo_image_2 z.1 z.2) n (x1, g)) Qx → nt_G p l e (nt_rm 1) s m args below meth c w A 0 0 Q 2 2 [(0, .ref (nt_a w 0)), (1, .int x1)] [] g := by
  intro n
  induction n with
  | zero =>
    intro x1 g h
    exact nt_R_none h
  | succ n ih =>
    intro x1 g h
    have h : nt_R (bMo_image_2 x1 g) (nt_Qz (fun z => bMo_image_2 z.1 z.2) n Qx) := nt_R_it h
    have hI : ∀ (y1 : Int32) (gy : nt_T), nt_Qz (fun z => bMo_image_2 z.1 z.2) n Qx (.inl (y1, gy)) → nt_G p l e (nt_rm 1) s m args below meth c w A 0 0 Q 2 2 [(0, .ref (nt_a w 0)), (1, .int y1)] [] gy := fun y1 gy q => ih y1 gy q
    have hE0 : ∀ (gy : nt_T), nt_Qz (fun z => bMo_image_2 z.1 z.2) n Qx (.inr gy) → nt_G p l e (nt_rm 1) s m args below meth c w A 0 0 Q 2 38 [(0, .ref (nt_a w 0))] [] gy := hE0
    generalize nt_Qz (fun z => bMo_image_2 z.1 z.2) n Qx = Qz at h hI hE0
    unfold bMo_image_2 at h
    refine nt_iload_n X dX9_image_2 rfl 1 rfl ?_
    refine nt_bipush X dX9_image_3 nt_cb_8 ?_
    obtain ⟨ht, hf⟩ := nt_R_if h
    refine nt_icmp_ge X 38 dX9_image_5 (by decide) (fun q1 => ?_) (fun q1 => ?_)
    · have h := ht q1
      refine nt_sub [0] rfl ?_
      have h := nt_R_some h
      exact hE0 g h
    · have h := hf q1
      refine nt_aload_n X dX9_image_8 rfl 0 rfl ?_
      refine nt_get X 0 inX9 (nt_lM hw (Nat.le_of_ble_eq_true rfl)) (nt_m0 hw) rfl (j := 41) (by decide) wd_663 (v := .ref (nt_a w 18)) rfl dX9_image_9 ?_
      refine nt_iload_n X dX9_image_12 rfl 1 rfl ?_
      refine nt_aload_n X dX9_image_13 rfl 0 rfl ?_
      refine nt_get X 0 inX9 (nt_lM hw (Nat.le_of_ble_eq_true rfl)) (nt_m0 hw) rfl (j := 14) (by decide) wd_636 (v := .ref (nt_a w 10)) rfl dX9_image_14 ?_
      refine nt_iload_n X dX9_image_17 rfl 1 rfl ?_
      obtain ⟨q2, h⟩ := nt_R_gd h
      refine nt_iald X 10 0 (nt_lM hw (Nat.le_of_ble_eq_true rfl)) (nt_m10 hw) (nt_tM hw) q2 dX9_image_18 ?_
      obtain ⟨q3, h⟩ := nt_R_gd h
      refine nt_iast X 18 0 (nt_lM hw (Nat.le_of_ble_eq_true rfl)) (nt_m18 hw) (nt_tM hw) q3 dX9_image_19 ?_
      obtain ⟨g4, eg4, h⟩ := nt_R_lt h
      refine nt_geq eg4 ?_
      refine nt_aload_n X dX9_image_20 rfl 0 rfl ?_
      refine nt_get X 0 inX9 (nt_lM hw (Nat.le_of_ble_eq_true rfl)) (nt_m0 hw) rfl (j := 42) (by decide) wd_664 (v := .ref (nt_a w 19)) rfl dX9_image_21 ?_
      refine nt_iload_n X dX9_image_24 rfl 1 rfl ?_
      refine nt_aload_n X dX9_image_25 rfl 0 rfl ?_
      refine nt_get X 0 inX9 (nt_lM hw (Nat.le_of_ble_eq_true rfl)) (nt_m0 hw) rfl (j := 15) (by decide) wd_637 (v := .ref (nt_a w 11)) rfl dX9_image_26 ?_
      refine nt_iload_n X dX9_image_29 rfl 1 rfl ?_
      obtain ⟨q5, h⟩ := nt_R_gd h
      refine nt_iald X 11 0 (nt_lM hw (Nat.le_of_ble_eq_true rfl)) (nt_m11 hw) (nt_tM hw) q5 dX9_image_30 ?_
      obtain ⟨q6, h⟩ := nt_R_gd h
      refine nt_iast X 19 0 (nt_lM hw (Nat.le_of_ble_eq_true rfl)) (nt_m19 hw) (nt_tM hw) q6 dX9_image_31 ?_
      obtain ⟨g7, eg7, h⟩ := nt_R_lt h
      refine nt_geq eg7 ?_
      obtain ⟨v8, ev8, h⟩ := nt_R_lt h
      refine nt_iinc X v8 [(1, .int v8), (0, .ref (nt_a w 0))] dX9_image_32 1 rfl (by rw [nt_ci_1]; exact ev8) (by decide) rfl ?_
      refine nt_goto X 2 dX9_image_35 (by decide) ?_
      refine nt_sub [1, 0] rfl ?_
      have h := nt_R_some h
      exact hI v8 g7 h
def bMo_image_40 (x1 : Int32) (g : nt_T) : Option ((Int32 × nt_T) ⊕ ((nt_T))) :=
  (if (64 : Int32) ≤ x1 then
    (some (.inr g))
  else
    (nt_gd (nt_in x1 72) <| nt_gd (nt_in x1 72) <| nt_lt (nt_st g 20 (Int32.toNatClampNeg x1) (g 12 (Int32.toNatClampNeg x1))) fun g13 => nt_lt (x1 + (1 : Int32)) fun v14 => some (.inl (v14, g13))))
set_option maxRecDepth 100000 in
set_option maxHeartbeats 4000000 in
theorem tbMo_image_40 {p : Program} {l : Launch} {e : Env} {s : State} {m : MethodId} {args : Array Value} {below : List Frame} {meth : Method} {c : Code} {w : nt_w} {A : Nat → Prop} (hw : nt_isM w) {Q : State → Prop} (X : nt_X cX9_image 2 RX9 (some .int) w A p s m args meth c)  {Qx : ((nt_T)) → Prop} (hE0 : ∀ (gy : nt_T), Qx gy → nt_G p l e (nt_rm 1) s m args below meth c w A 0 0 Q 2 64 [(0, .ref (nt_a w 0))] [] gy) : ∀ (n : Nat) (x1 : Int32) (g : nt_T), nt_R (nt_it (fun z => bMo_image_40 z.1 z.2) n (x1, g)) Qx → nt_G p l e (nt_rm 1) s m args below meth c w A 0 0 Q 2 40 [(0, .ref (nt_a w 0)), (1, .int x1)] [] g := by
  intro n
  induction n with
  | zero =>
    intro x1 g h
    exact nt_R_none h
  | succ n ih =>
    intro x1 g h
    have h : nt_R (bMo_image_40 x1 g) (nt_Qz (fun z => bMo_image_40 z.1 z.2) n Qx) := nt_R_it h
    have hI : ∀ (y1 : Int32) (gy : nt_T), nt_Qz (fun z => bMo_image_40 z.1 z.2) n Qx (.inl (y1, gy)) → nt_G p l e (nt_rm 1) s m args below meth c w A 0 0 Q 2 40 [(0, .ref (nt_a w 0)), (1, .int y1)] [] gy := fun y1 gy q => ih y1 gy q
    have hE0 : ∀ (gy : nt_T), nt_Qz (fun z => bMo_image_40 z.1 z.2) n Qx (.inr gy) → nt_G p l e (nt_rm 1) s m args below meth c w A 0 0 Q 2 64 [(0, .ref (nt_a w 0))] [] gy := hE0
    generalize nt_Qz (fun z => bMo_image_40 z.1 z.2) n Qx = Qz at h hI hE0
    unfold bMo_image_40 at h
    refine nt_iload_n X dX9_image_40 rfl 1 rfl ?_
    refine nt_bipush X dX9_image_41 nt_cb_64 ?_
    obtain ⟨ht, hf⟩ := nt_R_if h
    refine nt_icmp_ge X 64 dX9_image_43 (by decide) (fun q10 => ?_) (fun q10 => ?_)
    · have h := ht q10
      refine nt_sub [0] rfl ?_
      have h := nt_R_some h
      exact hE0 g h
    · have h := hf q10
      refine nt_aload_n X dX9_image_46 rfl 0 rfl ?_
      refine nt_get X 0 inX9 (nt_lM hw (Nat.le_of_ble_eq_true rfl)) (nt_m0 hw) rfl (j := 43) (by decide) wd_665 (v := .ref (nt_a w 20)) rfl dX9_image_47 ?_
      refine nt_iload_n X dX9_image_50 rfl 1 rfl ?_
      refine nt_aload_n X dX9_image_51 rfl 0 rfl ?_
      refine nt_get X 0 inX9 (nt_lM hw (Nat.le_of_ble_eq_true rfl)) (nt_m0 hw) rfl (j := 16) (by decide) wd_638 (v := .ref (nt_a w 12)) rfl dX9_image_52 ?_
      refine nt_iload_n X dX9_image_55 rfl 1 rfl ?_
      obtain ⟨q11, h⟩ := nt_R_gd h
      refine nt_iald X 12 0 (nt_lM hw (Nat.le_of_ble_eq_true rfl)) (nt_m12 hw) (nt_tM hw) q11 dX9_image_56 ?_
      obtain ⟨q12, h⟩ := nt_R_gd h
      refine nt_iast X 20 0 (nt_lM hw (Nat.le_of_ble_eq_true rfl)) (nt_m20 hw) (nt_tM hw) q12 dX9_image_57 ?_
      obtain ⟨g13, eg13, h⟩ := nt_R_lt h
      refine nt_geq eg13 ?_
      obtain ⟨v14, ev14, h⟩ := nt_R_lt h
      refine nt_iinc X v14 [(1, .int v14), (0, .ref (nt_a w 0))] dX9_image_58 1 rfl (by rw [nt_ci_1]; exact ev14) (by decide) rfl ?_
      refine nt_goto X 40 dX9_image_61 (by decide) ?_
      refine nt_sub [1, 0] rfl ?_
      have h := nt_R_some h
      exact hI v14 g13 h
def fMo_image (g : nt_T) : Option (Int32 × nt_T) :=
  (nt_b1 (nt_it (fun z => bMo_image_2 z.1 z.2) nt_fu ((0 : Int32), g)) fun g9 => (nt_b1 (nt_it (fun z => bMo_image_40 z.1 z.2) nt_fu ((0 : Int32), g9)) fun g15 => nt_lt (nt_st g15 0 44 (g15 0 17)) fun g16 => nt_lt (nt_st g16 0 45 (g16 0 18)) fun g17 => nt_lt (nt_st g17 0 46 (g17 0 4)) fun g18 => some ((g18 0 18), g18)))
set_option maxRecDepth 100000 in
set_option maxHeartbeats 4000000 in
theorem cMo_image {l : Launch} {w : nt_w} (hw : nt_isM w) {g : nt_T} {r : Int32} {g2 : nt_T} (hf : fMo_image g = some (r, g2)) : nt_Mi l w yX9_image cX9_image 2 (some .int) 1 [.ref (nt_a w 0)] g r g2 := by
  refine nt_Mi_of (by decide) (Nat.le_of_ble_eq_true rfl) (fun p e s m args below meth c A X => ?_)
  have X : nt_X cX9_image 2 RX9 (some .int) w A p s m args meth c := X
  have h : nt_R (fMo_image g) (fun z => z = (r, g2)) := ⟨_, hf, rfl⟩
  unfold fMo_image at h
  show nt_G p l e (nt_rm 1) s m args below meth c w A 0 0 (nt_Qi w A below args s r g2) 2 0 [(0, .ref (nt_a w 0))] [] g
  refine nt_iconst X dX9_image_0 nt_ci_0 ?_
  refine nt_istore_n X [(1, .int (0 : Int32)), (0, .ref (nt_a w 0))] dX9_image_1 rfl (by decide) rfl ?_
  obtain ⟨z20, hz20, h⟩ := nt_R_b1 h
  refine nt_sub [1, 0] rfl ?_
  refine tbMo_image_2 hw X  (Qx := fun z => z = z20) (fun g9 hq => ?_) nt_fu (0 : Int32) g ⟨_, hz20, rfl⟩
  subst hq
  refine nt_iconst X dX9_image_38 nt_ci_0 ?_
  refine nt_istore_n X [(1, .int (0 : Int32)), (0, .ref (nt_a w 0))] dX9_image_39 rfl (by decide) rfl ?_
  obtain ⟨z19, hz19, h⟩ := nt_R_b1 h
  refine nt_sub [1, 0] rfl ?_
  refine tbMo_image_40 hw X  (Qx := fun z => z = z19) (fun g15 hq => ?_) nt_fu (0 : Int32) g9 ⟨_, hz19, rfl⟩
  subst hq
  refine nt_aload_n X dX9_image_64 rfl 0 rfl ?_
  refine nt_aload_n X dX9_image_65 rfl 0 rfl ?_
  refine nt_get X 0 inX9 (nt_lM hw (Nat.le_of_ble_eq_true rfl)) (nt_m0 hw) rfl (j := 17) (by decide) wd_639 (v := .int (g15 0 17)) rfl dX9_image_66 ?_
  refine nt_put X 0 inX9 (nt_lM hw (Nat.le_of_ble_eq_true rfl)) (nt_m0 hw) rfl (j := 44) (by decide) wd_666 tyX9 tyX9_ok nmX9 rfl (ty := .int) rfl rfl rfl (fun _ => Nat.le_of_ble_eq_true rfl) (fun _ => rfl) dX9_image_69 ?_
  obtain ⟨g16, eg16, h⟩ := nt_R_lt h
  refine nt_geq eg16 ?_
  refine nt_aload_n X dX9_image_72 rfl 0 rfl ?_
  refine nt_aload_n X dX9_image_73 rfl 0 rfl ?_
  refine nt_get X 0 inX9 (nt_lM hw (Nat.le_of_ble_eq_true rfl)) (nt_m0 hw) rfl (j := 18) (by decide) wd_640 (v := .int (g16 0 18)) rfl dX9_image_74 ?_
  refine nt_put X 0 inX9 (nt_lM hw (Nat.le_of_ble_eq_true rfl)) (nt_m0 hw) rfl (j := 45) (by decide) wd_667 tyX9 tyX9_ok nmX9 rfl (ty := .int) rfl rfl rfl (fun _ => Nat.le_of_ble_eq_true rfl) (fun _ => rfl) dX9_image_77 ?_
  obtain ⟨g17, eg17, h⟩ := nt_R_lt h
  refine nt_geq eg17 ?_
  refine nt_aload_n X dX9_image_80 rfl 0 rfl ?_
  refine nt_aload_n X dX9_image_81 rfl 0 rfl ?_
  refine nt_get X 0 inX9 (nt_lM hw (Nat.le_of_ble_eq_true rfl)) (nt_m0 hw) rfl (j := 4) (by decide) wd_626 (v := .int (g17 0 4)) rfl dX9_image_82 ?_
  refine nt_put X 0 inX9 (nt_lM hw (Nat.le_of_ble_eq_true rfl)) (nt_m0 hw) rfl (j := 46) (by decide) wd_668 tyX9 tyX9_ok nmX9 rfl (ty := .int) rfl rfl rfl (fun _ => Nat.le_of_ble_eq_true rfl) (fun _ => rfl) dX9_image_85 ?_
  obtain ⟨g18, eg18, h⟩ := nt_R_lt h
  refine nt_geq eg18 ?_
  refine nt_aload_n X dX9_image_88 rfl 0 rfl ?_
  refine nt_get X 0 inX9 (nt_lM hw (Nat.le_of_ble_eq_true rfl)) (nt_m0 hw) rfl (j := 18) (by decide) wd_640 (v := .int (g18 0 18)) rfl dX9_image_89 ?_
  have h := nt_R_some h
  exact nt_iret X dX9_image_92 h
def bMo_back_13 (x1 : Int32) (g : nt_T) : Option ((Int32 × nt_T) ⊕ ((nt_T))) :=
  (if (g 0 44) ≤ x1 then
    (some (.inr g))
  else
    (nt_gd (nt_in x1 9) <| nt_gd (nt_in x1 9) <| nt_lt (nt_st g 10 (Int32.toNatClampNeg x1) (g 18 (Int32.toNatClampNeg x1))) fun g5 => nt_gd (nt_in x1 9) <| nt_gd (nt_in x1 9) <| nt_lt (nt_st g5 11 (Int32.toNatClampNeg x1) (g5 19 (Int32.toNatClampNeg x1))) fun g8 => nt_lt (x1 + (1 : Int32)) fun v9 => some (.inl (v9, g8))))
set_option maxRecDepth 100000 in
set_option maxHeartbeats 4000000 in
theorem tbMo_back_13 {p : Program} {l : Launch} {e : Env} {s : State} {m : MethodId} {args : Array Value} {below : List Frame} {meth : Method} {c : Code} {w : nt_w} {A : Nat → Prop} (hw : nt_isM w) {Q : State → Prop} (X : nt_X cX9_back 2 RX9 (some .int) w A p s m args meth c)  {Qx : ((nt_T)) → Prop} (hE0 : ∀ (gy : nt_T), Qx gy → nt_G p l e (nt_rm 1) s m args below meth c w A 0 0 Q 2 51 [(0, .ref (nt_a w 0))] [] gy) : ∀ (n : Nat) (x1 : Int32) (g : nt_T), nt_R (nt_it (fun z => bMo_back_13 z.1 z.2) n (x1, g)) Qx → nt_G p l e (nt_rm 1) s m args below meth c w A 0 0 Q 2 13 [(0, .ref (nt_a w 0)), (1, .int x1)] [] g := by
  intro n
  induction n with
  | zero =>
    intro x1 g h
    exact nt_R_none h
  | succ n ih =>
    intro x1 g h
    have h : nt_R (bMo_back_13 x1 g) (nt_Qz (fun z => bMo_back_13 z.1 z.2) n Qx) := nt_R_it h
    have hI : ∀ (y1 : Int32) (gy : nt_T), nt_Qz (fun z => bMo_back_13 z.1 z.2) n Qx (.inl (y1, gy)) → nt_G p l e (nt_rm 1) s m args below meth c w A 0 0 Q 2 13 [(0, .ref (nt_a w 0)), (1, .int y1)] [] gy := fun y1 gy q => ih y1 gy q
    have hE0 : ∀ (gy : nt_T), nt_Qz (fun z => bMo_back_13 z.1 z.2) n Qx (.inr gy) → nt_G p l e (nt_rm 1) s m args below meth c w A 0 0 Q 2 51 [(0, .ref (nt_a w 0))] [] gy := hE0
    generalize nt_Qz (fun z => bMo_back_13 z.1 z.2) n Qx = Qz at h hI hE0
    unfold bMo_back_13 at h
    refine nt_iload_n X dX9_back_13 rfl 1 rfl ?_
    refine nt_aload_n X dX9_back_14 rfl 0 rfl ?_
    refine nt_get X 0 inX9 (nt_lM hw (Nat.le_of_ble_eq_true rfl)) (nt_m0 hw) rfl (j := 44) (by decide) wd_666 (v := .int (g 0 44)) rfl dX9_back_15 ?_
    obtain ⟨ht, hf⟩ := nt_R_if h
    refine nt_icmp_ge X 51 dX9_back_18 (by decide) (fun q2 => ?_) (fun q2 => ?_)
    · have h := ht q2
      refine nt_sub [0] rfl ?_
      have h := nt_R_some h
      exact hE0 g h
    · have h := hf q2
      refine nt_aload_n X dX9_back_21 rfl 0 rfl ?_
      refine nt_get X 0 inX9 (nt_lM hw (Nat.le_of_ble_eq_true rfl)) (nt_m0 hw) rfl (j := 14) (by decide) wd_636 (v := .ref (nt_a w 10)) rfl dX9_back_22 ?_
      refine nt_iload_n X dX9_back_25 rfl 1 rfl ?_
      refine nt_aload_n X dX9_back_26 rfl 0 rfl ?_
      refine nt_get X 0 inX9 (nt_lM hw (Nat.le_of_ble_eq_true rfl)) (nt_m0 hw) rfl (j := 41) (by decide) wd_663 (v := .ref (nt_a w 18)) rfl dX9_back_27 ?_
      refine nt_iload_n X dX9_back_30 rfl 1 rfl ?_
      obtain ⟨q3, h⟩ := nt_R_gd h
      refine nt_iald X 18 0 (nt_lM hw (Nat.le_of_ble_eq_true rfl)) (nt_m18 hw) (nt_tM hw) q3 dX9_back_31 ?_
      obtain ⟨q4, h⟩ := nt_R_gd h
      refine nt_iast X 10 0 (nt_lM hw (Nat.le_of_ble_eq_true rfl)) (nt_m10 hw) (nt_tM hw) q4 dX9_back_32 ?_
      obtain ⟨g5, eg5, h⟩ := nt_R_lt h
      refine nt_geq eg5 ?_
      refine nt_aload_n X dX9_back_33 rfl 0 rfl ?_
      refine nt_get X 0 inX9 (nt_lM hw (Nat.le_of_ble_eq_true rfl)) (nt_m0 hw) rfl (j := 15) (by decide) wd_637 (v := .ref (nt_a w 11)) rfl dX9_back_34 ?_
      refine nt_iload_n X dX9_back_37 rfl 1 rfl ?_
      refine nt_aload_n X dX9_back_38 rfl 0 rfl ?_
      refine nt_get X 0 inX9 (nt_lM hw (Nat.le_of_ble_eq_true rfl)) (nt_m0 hw) rfl (j := 42) (by decide) wd_664 (v := .ref (nt_a w 19)) rfl dX9_back_39 ?_
      refine nt_iload_n X dX9_back_42 rfl 1 rfl ?_
      obtain ⟨q6, h⟩ := nt_R_gd h
      refine nt_iald X 19 0 (nt_lM hw (Nat.le_of_ble_eq_true rfl)) (nt_m19 hw) (nt_tM hw) q6 dX9_back_43 ?_
      obtain ⟨q7, h⟩ := nt_R_gd h
      refine nt_iast X 11 0 (nt_lM hw (Nat.le_of_ble_eq_true rfl)) (nt_m11 hw) (nt_tM hw) q7 dX9_back_44 ?_
      obtain ⟨g8, eg8, h⟩ := nt_R_lt h
      refine nt_geq eg8 ?_
      obtain ⟨v9, ev9, h⟩ := nt_R_lt h
      refine nt_iinc X v9 [(1, .int v9), (0, .ref (nt_a w 0))] dX9_back_45 1 rfl (by rw [nt_ci_1]; exact ev9) (by decide) rfl ?_
      refine nt_goto X 13 dX9_back_48 (by decide) ?_
      refine nt_sub [1, 0] rfl ?_
      have h := nt_R_some h
      exact hI v9 g8 h
def bMo_back_53 (x1 : Int32) (g : nt_T) : Option ((Int32 × nt_T) ⊕ ((nt_T))) :=
  (if ((8 : Int32) * (g 0 44)) ≤ x1 then
    (some (.inr g))
  else
    (nt_gd (nt_in x1 72) <| nt_gd (nt_in x1 72) <| nt_lt (nt_st g 12 (Int32.toNatClampNeg x1) (g 20 (Int32.toNatClampNeg x1))) fun g14 => nt_lt (x1 + (1 : Int32)) fun v15 => some (.inl (v15, g14))))
set_option maxRecDepth 100000 in
set_option maxHeartbeats 4000000 in
theorem tbMo_back_53 {p : Program} {l : Launch} {e : Env} {s : State} {m : MethodId} {args : Array Value} {below : List Frame} {meth : Method} {c : Code} {w : nt_w} {A : Nat → Prop} (hw : nt_isM w) {Q : State → Prop} (X : nt_X cX9_back 2 RX9 (some .int) w A p s m args meth c)  {Qx : ((nt_T)) → Prop} (hE0 : ∀ (gy : nt_T), Qx gy → nt_G p l e (nt_rm 1) s m args below meth c w A 0 0 Q 2 82 [(0, .ref (nt_a w 0))] [] gy) : ∀ (n : Nat) (x1 : Int32) (g : nt_T), nt_R (nt_it (fun z => bMo_back_53 z.1 z.2) n (x1, g)) Qx → nt_G p l e (nt_rm 1) s m args below meth c w A 0 0 Q 2 53 [(0, .ref (nt_a w 0)), (1, .int x1)] [] g := by
  intro n
  induction n with
  | zero =>
    intro x1 g h
    exact nt_R_none h
  | succ n ih =>
    intro x1 g h
    have h : nt_R (bMo_back_53 x1 g) (nt_Qz (fun z => bMo_back_53 z.1 z.2) n Qx) := nt_R_it h
    have hI : ∀ (y1 : Int32) (gy : nt_T), nt_Qz (fun z => bMo_back_53 z.1 z.2) n Qx (.inl (y1, gy)) → nt_G p l e (nt_rm 1) s m args below meth c w A 0 0 Q 2 53 [(0, .ref (nt_a w 0)), (1, .int y1)] [] gy := fun y1 gy q => ih y1 gy q
    have hE0 : ∀ (gy : nt_T), nt_Qz (fun z => bMo_back_53 z.1 z.2) n Qx (.inr gy) → nt_G p l e (nt_rm 1) s m args below meth c w A 0 0 Q 2 82 [(0, .ref (nt_a w 0))] [] gy := hE0
    generalize nt_Qz (fun z => bMo_back_53 z.1 z.2) n Qx = Qz at h hI hE0
    unfold bMo_back_53 at h
    refine nt_iload_n X dX9_back_53 rfl 1 rfl ?_
    refine nt_bipush X dX9_back_54 nt_cb_8 ?_
    refine nt_aload_n X dX9_back_56 rfl 0 rfl ?_
    refine nt_get X 0 inX9 (nt_lM hw (Nat.le_of_ble_eq_true rfl)) (nt_m0 hw) rfl (j := 44) (by decide) wd_666 (v := .int (g 0 44)) rfl dX9_back_57 ?_
    refine nt_imul X dX9_back_60 ?_
    obtain ⟨ht, hf⟩ := nt_R_if h
    refine nt_icmp_ge X 82 dX9_back_61 (by decide) (fun q11 => ?_) (fun q11 => ?_)
    · have h := ht q11
      refine nt_sub [0] rfl ?_
      have h := nt_R_some h
      exact hE0 g h
    · have h := hf q11
      refine nt_aload_n X dX9_back_64 rfl 0 rfl ?_
      refine nt_get X 0 inX9 (nt_lM hw (Nat.le_of_ble_eq_true rfl)) (nt_m0 hw) rfl (j := 16) (by decide) wd_638 (v := .ref (nt_a w 12)) rfl dX9_back_65 ?_
      refine nt_iload_n X dX9_back_68 rfl 1 rfl ?_
      refine nt_aload_n X dX9_back_69 rfl 0 rfl ?_
      refine nt_get X 0 inX9 (nt_lM hw (Nat.le_of_ble_eq_true rfl)) (nt_m0 hw) rfl (j := 43) (by decide) wd_665 (v := .ref (nt_a w 20)) rfl dX9_back_70 ?_
      refine nt_iload_n X dX9_back_73 rfl 1 rfl ?_
      obtain ⟨q12, h⟩ := nt_R_gd h
      refine nt_iald X 20 0 (nt_lM hw (Nat.le_of_ble_eq_true rfl)) (nt_m20 hw) (nt_tM hw) q12 dX9_back_74 ?_
      obtain ⟨q13, h⟩ := nt_R_gd h
      refine nt_iast X 12 0 (nt_lM hw (Nat.le_of_ble_eq_true rfl)) (nt_m12 hw) (nt_tM hw) q13 dX9_back_75 ?_
      obtain ⟨g14, eg14, h⟩ := nt_R_lt h
      refine nt_geq eg14 ?_
      obtain ⟨v15, ev15, h⟩ := nt_R_lt h
      refine nt_iinc X v15 [(1, .int v15), (0, .ref (nt_a w 0))] dX9_back_76 1 rfl (by rw [nt_ci_1]; exact ev15) (by decide) rfl ?_
      refine nt_goto X 53 dX9_back_79 (by decide) ?_
      refine nt_sub [1, 0] rfl ?_
      have h := nt_R_some h
      exact hI v15 g14 h
def fMo_back (g : nt_T) : Option (Int32 × nt_T) :=
  (if (g 0 44) = (-1 : Int32) then
    (some ((-3 : Int32), g))
  else
    ((nt_b1 (nt_it (fun z => bMo_back_13 z.1 z.2) nt_fu ((0 : Int32), g)) fun g10 => (nt_b1 (nt_it (fun z => bMo_back_53 z.1 z.2) nt_fu ((0 : Int32), g10)) fun g16 => nt_lt (nt_st g16 0 18 (g16 0 45)) fun g17 => nt_lt (nt_st g17 0 4 (g17 0 46)) fun g18 => some ((g18 0 18), g18)))))
set_option maxRecDepth 100000 in
set_option maxHeartbeats 4000000 in
theorem cMo_back {l : Launch} {w : nt_w} (hw : nt_isM w) {g : nt_T} {r : Int32} {g2 : nt_T} (hf : fMo_back g = some (r, g2)) : nt_Mi l w yX9_back cX9_back 2 (some .int) 1 [.ref (nt_a w 0)] g r g2 := by
  refine nt_Mi_of (by decide) (Nat.le_of_ble_eq_true rfl) (fun p e s m args below meth c A X => ?_)
  have X : nt_X cX9_back 2 RX9 (some .int) w A p s m args meth c := X
  have h : nt_R (fMo_back g) (fun z => z = (r, g2)) := ⟨_, hf, rfl⟩
  unfold fMo_back at h
  show nt_G p l e (nt_rm 1) s m args below meth c w A 0 0 (nt_Qi w A below args s r g2) 2 0 [(0, .ref (nt_a w 0))] [] g
  refine nt_aload_n X dX9_back_0 rfl 0 rfl ?_
  refine nt_get X 0 inX9 (nt_lM hw (Nat.le_of_ble_eq_true rfl)) (nt_m0 hw) rfl (j := 44) (by decide) wd_666 (v := .int (g 0 44)) rfl dX9_back_1 ?_
  refine nt_iconst X dX9_back_4 nt_ci_m1 ?_
  obtain ⟨ht, hf⟩ := nt_R_if h
  refine nt_icmp_ne X 11 dX9_back_5 (by decide) (fun q1 => ?_) (fun q1 => ?_)
  · have h := hf q1
    refine nt_iconst X dX9_back_11 nt_ci_0 ?_
    refine nt_istore_n X [(1, .int (0 : Int32)), (0, .ref (nt_a w 0))] dX9_back_12 rfl (by decide) rfl ?_
    obtain ⟨z20, hz20, h⟩ := nt_R_b1 h
    refine nt_sub [1, 0] rfl ?_
    refine tbMo_back_13 hw X  (Qx := fun z => z = z20) (fun g10 hq => ?_) nt_fu (0 : Int32) g ⟨_, hz20, rfl⟩
    subst hq
    refine nt_iconst X dX9_back_51 nt_ci_0 ?_
    refine nt_istore_n X [(1, .int (0 : Int32)), (0, .ref (nt_a w 0))] dX9_back_52 rfl (by decide) rfl ?_
    obtain ⟨z19, hz19, h⟩ := nt_R_b1 h
    refine nt_sub [1, 0] rfl ?_
    refine tbMo_back_53 hw X  (Qx := fun z => z = z19) (fun g16 hq => ?_) nt_fu (0 : Int32) g10 ⟨_, hz19, rfl⟩
    subst hq
    refine nt_aload_n X dX9_back_82 rfl 0 rfl ?_
    refine nt_aload_n X dX9_back_83 rfl 0 rfl ?_
    refine nt_get X 0 inX9 (nt_lM hw (Nat.le_of_ble_eq_true rfl)) (nt_m0 hw) rfl (j := 45) (by decide) wd_667 (v := .int (g16 0 45)) rfl dX9_back_84 ?_
    refine nt_put X 0 inX9 (nt_lM hw (Nat.le_of_ble_eq_true rfl)) (nt_m0 hw) rfl (j := 18) (by decide) wd_640 tyX9 tyX9_ok nmX9 rfl (ty := .int) rfl rfl rfl (fun _ => Nat.le_of_ble_eq_true rfl) (fun _ => rfl) dX9_back_87 ?_
    obtain ⟨g17, eg17, h⟩ := nt_R_lt h
    refine nt_geq eg17 ?_
    refine nt_aload_n X dX9_back_90 rfl 0 rfl ?_
    refine nt_aload_n X dX9_back_91 rfl 0 rfl ?_
    refine nt_get X 0 inX9 (nt_lM hw (Nat.le_of_ble_eq_true rfl)) (nt_m0 hw) rfl (j := 46) (by decide) wd_668 (v := .int (g17 0 46)) rfl dX9_back_92 ?_
    refine nt_put X 0 inX9 (nt_lM hw (Nat.le_of_ble_eq_true rfl)) (nt_m0 hw) rfl (j := 4) (by decide) wd_626 tyX9 tyX9_ok nmX9 rfl (ty := .int) rfl rfl rfl (fun _ => Nat.le_of_ble_eq_true rfl) (fun _ => rfl) dX9_back_95 ?_
    obtain ⟨g18, eg18, h⟩ := nt_R_lt h
    refine nt_geq eg18 ?_
    refine nt_aload_n X dX9_back_98 rfl 0 rfl ?_
    refine nt_get X 0 inX9 (nt_lM hw (Nat.le_of_ble_eq_true rfl)) (nt_m0 hw) rfl (j := 18) (by decide) wd_640 (v := .int (g18 0 18)) rfl dX9_back_99 ?_
    have h := nt_R_some h
    exact nt_iret X dX9_back_102 h
  · have h := ht q1
    refine nt_bipush X dX9_back_8 nt_cb_m3 ?_
    have h := nt_R_some h
    exact nt_iret X dX9_back_10 h
def fMo_count (x1 : Int32) (g : nt_T) : Option (Int32) :=
  nt_b1 (fMo_in (Int32.toInt64 x1) (0 : Int64) (5 : Int64) g) fun r1 => (if r1 = 0 then
    (some (-2 : Int32))
  else
    ((if (3 : Int32) ≤ x1 then
    ((if x1 = (3 : Int32) then
    (some (g 0 3))
  else
    ((if x1 = (4 : Int32) then
    (some (g 0 6))
  else
    (some (g 0 4))))))
  else
    ((if x1 = 0 then
    (some (g 0 11))
  else
    ((if x1 = (1 : Int32) then
    (some (g 0 17))
  else
    (some (g 0 18)))))))))
set_option maxRecDepth 100000 in
set_option maxHeartbeats 4000000 in
theorem cMo_count {l : Launch} {w : nt_w} (hw : nt_isM w) {x1 : Int32} {g : nt_T} {r : Int32} (hf : fMo_count x1 g = some r) : nt_Mi l w yX9_count cX9_count 2 (some .int) 3 [.ref (nt_a w 0), .int x1] g r g := by
  refine nt_Mi_of (by decide) (Nat.le_of_ble_eq_true rfl) (fun p e s m args below meth c A X => ?_)
  have X : nt_X cX9_count 2 RX9 (some .int) w A p s m args meth c := X
  have hg : g = g := rfl
  have h : nt_R (fMo_count x1 g) (fun z => z = r) := ⟨_, hf, rfl⟩
  unfold fMo_count at h
  show nt_G p l e (nt_rm 3) s m args below meth c w A 0 0 (nt_Qi w A below args s r g) 2 0 [(0, .ref (nt_a w 0)), (1, .int x1)] [] g
  refine nt_iload_n X dX9_count_0 rfl 1 rfl ?_
  refine nt_i2l X dX9_count_1 rfl ?_
  refine nt_lconst X dX9_count_2 nt_cl_0 ?_
  refine nt_ldc2 X wd_729 dX9_count_3 ?_
  obtain ⟨r1, er1, h⟩ := nt_R_b1 h
  refine nt_cSi X (As := [.long (Int32.toInt64 x1), .long (0 : Int64), .long (5 : Int64)]) (cMo_in hw er1) wd_732 wd_730 wd_731 wd_16 hd_X9_in ⟨Nat.le_of_ble_eq_true rfl, Nat.le_of_ble_eq_true rfl⟩ ⟨Nat.le_refl 0, Nat.le_refl 0⟩ (Nat.le_of_ble_eq_true rfl) rfl dX9_count_6 ?_
  obtain ⟨ht, hf⟩ := nt_R_if h
  refine nt_if_ne X 15 dX9_count_9 (by decide) (fun q2 => ?_) (fun q2 => ?_)
  · have h := hf q2
    refine nt_iload_n X dX9_count_15 rfl 1 rfl ?_
    refine nt_iconst X dX9_count_16 nt_ci_3 ?_
    obtain ⟨ht, hf⟩ := nt_R_if h
    refine nt_icmp_ge X 48 dX9_count_17 (by decide) (fun q3 => ?_) (fun q3 => ?_)
    · have h := ht q3
      refine nt_iload_n X dX9_count_48 rfl 1 rfl ?_
      refine nt_iconst X dX9_count_49 nt_ci_3 ?_
      obtain ⟨ht, hf⟩ := nt_R_if h
      refine nt_icmp_ne X 60 dX9_count_50 (by decide) (fun q4 => ?_) (fun q4 => ?_)
      · have h := hf q4
        refine nt_iload_n X dX9_count_60 rfl 1 rfl ?_
        refine nt_iconst X dX9_count_61 nt_ci_4 ?_
        obtain ⟨ht, hf⟩ := nt_R_if h
        refine nt_icmp_ne X 72 dX9_count_62 (by decide) (fun q5 => ?_) (fun q5 => ?_)
        · have h := hf q5
          refine nt_aload_n X dX9_count_72 rfl 0 rfl ?_
          refine nt_get X 0 inX9 (nt_lM hw (Nat.le_of_ble_eq_true rfl)) (nt_m0 hw) rfl (j := 4) (by decide) wd_626 (v := .int (g 0 4)) rfl dX9_count_73 ?_
          have h := nt_R_some h
          exact nt_iret X dX9_count_76 (nt_pe h hg)
        · have h := ht q5
          refine nt_aload_n X dX9_count_65 rfl 0 rfl ?_
          refine nt_get X 0 inX9 (nt_lM hw (Nat.le_of_ble_eq_true rfl)) (nt_m0 hw) rfl (j := 6) (by decide) wd_628 (v := .int (g 0 6)) rfl dX9_count_66 ?_
          refine nt_goto X 76 dX9_count_69 (by decide) ?_
          have h := nt_R_some h
          exact nt_iret X dX9_count_76 (nt_pe h hg)
      · have h := ht q4
        refine nt_aload_n X dX9_count_53 rfl 0 rfl ?_
        refine nt_get X 0 inX9 (nt_lM hw (Nat.le_of_ble_eq_true rfl)) (nt_m0 hw) rfl (j := 3) (by decide) wd_625 (v := .int (g 0 3)) rfl dX9_count_54 ?_
        refine nt_goto X 76 dX9_count_57 (by decide) ?_
        have h := nt_R_some h
        exact nt_iret X dX9_count_76 (nt_pe h hg)
    · have h := hf q3
      refine nt_iload_n X dX9_count_20 rfl 1 rfl ?_
      obtain ⟨ht, hf⟩ := nt_R_if h
      refine nt_if_ne X 31 dX9_count_21 (by decide) (fun q6 => ?_) (fun q6 => ?_)
      · have h := hf q6
        refine nt_iload_n X dX9_count_31 rfl 1 rfl ?_
        refine nt_iconst X dX9_count_32 nt_ci_1 ?_
        obtain ⟨ht, hf⟩ := nt_R_if h
        refine nt_icmp_ne X 43 dX9_count_33 (by decide) (fun q7 => ?_) (fun q7 => ?_)
        · have h := hf q7
          refine nt_aload_n X dX9_count_43 rfl 0 rfl ?_
          refine nt_get X 0 inX9 (nt_lM hw (Nat.le_of_ble_eq_true rfl)) (nt_m0 hw) rfl (j := 18) (by decide) wd_640 (v := .int (g 0 18)) rfl dX9_count_44 ?_
          have h := nt_R_some h
          exact nt_iret X dX9_count_47 (nt_pe h hg)
        · have h := ht q7
          refine nt_aload_n X dX9_count_36 rfl 0 rfl ?_
          refine nt_get X 0 inX9 (nt_lM hw (Nat.le_of_ble_eq_true rfl)) (nt_m0 hw) rfl (j := 17) (by decide) wd_639 (v := .int (g 0 17)) rfl dX9_count_37 ?_
          refine nt_goto X 47 dX9_count_40 (by decide) ?_
          have h := nt_R_some h
          exact nt_iret X dX9_count_47 (nt_pe h hg)
      · have h := ht q6
        refine nt_aload_n X dX9_count_24 rfl 0 rfl ?_
        refine nt_get X 0 inX9 (nt_lM hw (Nat.le_of_ble_eq_true rfl)) (nt_m0 hw) rfl (j := 11) (by decide) wd_633 (v := .int (g 0 11)) rfl dX9_count_25 ?_
        refine nt_goto X 47 dX9_count_28 (by decide) ?_
        have h := nt_R_some h
        exact nt_iret X dX9_count_47 (nt_pe h hg)
  · have h := ht q2
    refine nt_bipush X dX9_count_12 nt_cb_m2 ?_
    have h := nt_R_some h
    exact nt_iret X dX9_count_14 (nt_pe h hg)
def bMo_sheet_77 (x1 : Int32) (x2 : Int32) (x3 : Int32) (x4 : Int32) (g : nt_T) : Option ((Int32 × nt_T) ⊕ ((nt_T))) :=
  (if x3 ≤ x4 then
    (some (.inr g))
  else
    ((if x2 < 0 then
    (some (.inr g))
  else
    (nt_gd (nt_in (((40 : Int32) * x1) + x4) 160) <| nt_lt (nt_st g 24 (Int32.toNatClampNeg (((40 : Int32) * x1) + x4)) (0 : Int32)) fun g17 => nt_lt (x4 + (1 : Int32)) fun v18 => some (.inl (v18, g17))))))
set_option maxRecDepth 100000 in
set_option maxHeartbeats 4000000 in
theorem tbMo_sheet_77 {p : Program} {l : Launch} {e : Env} {s : State} {m : MethodId} {args : Array Value} {below : List Frame} {meth : Method} {c : Code} {w : nt_w} {A : Nat → Prop} (hw : nt_isM w) {Q : State → Prop} (X : nt_X cX9_sheet 5 RX9 (some .int) w A p s m args meth c) (x1 : Int32) (x2 : Int32) (x3 : Int32)  {Qx : ((nt_T)) → Prop} (hE0 : ∀ (gy : nt_T), Qx gy → nt_G p l e (nt_rm 5) s m args below meth c w A 0 0 Q 5 106 [(0, .ref (nt_a w 0)), (1, .int x1), (2, .int x2), (3, .int x3)] [] gy) : ∀ (n : Nat) (x4 : Int32) (g : nt_T), nt_R (nt_it (fun z => bMo_sheet_77 x1 x2 x3 z.1 z.2) n (x4, g)) Qx → nt_G p l e (nt_rm 5) s m args below meth c w A 0 0 Q 5 77 [(0, .ref (nt_a w 0)), (1, .int x1), (2, .int x2), (3, .int x3), (4, .int x4)] [] g := by
  intro n
  induction n with
  | zero =>
    intro x4 g h
    exact nt_R_none h
  | succ n ih =>
    intro x4 g h
    have h : nt_R (bMo_sheet_77 x1 x2 x3 x4 g) (nt_Qz (fun z => bMo_sheet_77 x1 x2 x3 z.1 z.2) n Qx) := nt_R_it h
    have hI : ∀ (y4 : Int32) (gy : nt_T), nt_Qz (fun z => bMo_sheet_77 x1 x2 x3 z.1 z.2) n Qx (.inl (y4, gy)) → nt_G p l e (nt_rm 5) s m args below meth c w A 0 0 Q 5 77 [(0, .ref (nt_a w 0)), (1, .int x1), (2, .int x2), (3, .int x3), (4, .int y4)] [] gy := fun y4 gy q => ih y4 gy q
    have hE0 : ∀ (gy : nt_T), nt_Qz (fun z => bMo_sheet_77 x1 x2 x3 z.1 z.2) n Qx (.inr gy) → nt_G p l e (nt_rm 5) s m args below meth c w A 0 0 Q 5 106 [(0, .ref (nt_a w 0)), (1, .int x1), (2, .int x2), (3, .int x3)] [] gy := hE0
    generalize nt_Qz (fun z => bMo_sheet_77 x1 x2 x3 z.1 z.2) n Qx = Qz at h hI hE0
    unfold bMo_sheet_77 at h
    refine nt_iload X dX9_sheet_77 4 rfl ?_
    refine nt_iload_n X dX9_sheet_79 rfl 3 rfl ?_
    obtain ⟨ht, hf⟩ := nt_R_if h
    refine nt_icmp_ge X 106 dX9_sheet_80 (by decide) (fun q14 => ?_) (fun q14 => ?_)
    · have h := ht q14
      refine nt_sub [0, 1, 2, 3] rfl ?_
      have h := nt_R_some h
      exact hE0 g h
    · have h := hf q14
      refine nt_iload_n X dX9_sheet_83 rfl 2 rfl ?_
      obtain ⟨ht, hf⟩ := nt_R_if h
      refine nt_if_lt X 106 dX9_sheet_84 (by decide) (fun q15 => ?_) (fun q15 => ?_)
      · have h := ht q15
        refine nt_sub [0, 1, 2, 3] rfl ?_
        have h := nt_R_some h
        exact hE0 g h
      · have h := hf q15
        refine nt_aload_n X dX9_sheet_87 rfl 0 rfl ?_
        refine nt_get X 0 inX9 (nt_lM hw (Nat.le_of_ble_eq_true rfl)) (nt_m0 hw) rfl (j := 50) (by decide) wd_672 (v := .ref (nt_a w 24)) rfl dX9_sheet_88 ?_
        refine nt_bipush X dX9_sheet_91 nt_cb_40 ?_
        refine nt_iload_n X dX9_sheet_93 rfl 1 rfl ?_
        refine nt_imul X dX9_sheet_94 ?_
        refine nt_iload X dX9_sheet_95 4 rfl ?_
        refine nt_iadd X dX9_sheet_97 ?_
        refine nt_iconst X dX9_sheet_98 nt_ci_0 ?_
        obtain ⟨q16, h⟩ := nt_R_gd h
        refine nt_iast X 24 0 (nt_lM hw (Nat.le_of_ble_eq_true rfl)) (nt_m24 hw) (nt_tM hw) q16 dX9_sheet_99 ?_
        obtain ⟨g17, eg17, h⟩ := nt_R_lt h
        refine nt_geq eg17 ?_
        obtain ⟨v18, ev18, h⟩ := nt_R_lt h
        refine nt_iinc X v18 [(4, .int v18), (0, .ref (nt_a w 0)), (1, .int x1), (2, .int x2), (3, .int x3)] dX9_sheet_100 4 rfl (by rw [nt_ci_1]; exact ev18) (by decide) rfl ?_
        refine nt_goto X 77 dX9_sheet_103 (by decide) ?_
        refine nt_sub [1, 2, 3, 4, 0] rfl ?_
        have h := nt_R_some h
        exact hI v18 g17 h
def jMo_sheet_59 (x1 : Int32) (x2 : Int32) (x3 : Int32) (s0 : Int32) (s1 : Int32) (g : nt_T) : Option (Int32 × nt_T) :=
  nt_gd (nt_in s1 4) <| nt_lt (nt_st g 21 (Int32.toNatClampNeg s1) (vp_nar .boolean s0)) fun g9 => nt_gd (nt_in x1 4) <| nt_lt (nt_st g9 22 (Int32.toNatClampNeg x1) x2) fun g11 => nt_gd (nt_in x1 4) <| nt_lt (nt_st g11 23 (Int32.toNatClampNeg x1) x3) fun g13 => (nt_b1 (nt_it (fun z => bMo_sheet_77 x1 x2 x3 z.1 z.2) nt_fu ((0 : Int32), g13)) fun g19 => some ((1 : Int32), g19))
set_option maxRecDepth 100000 in
set_option maxHeartbeats 4000000 in
theorem tjMo_sheet_59 {p : Program} {l : Launch} {e : Env} {s : State} {m : MethodId} {args : Array Value} {below : List Frame} {meth : Method} {c : Code} {w : nt_w} {A : Nat → Prop} (hw : nt_isM w) {r : Int32} {g2 : nt_T}  (X : nt_X cX9_sheet 5 RX9 (some .int) w A p s m args meth c) (x1 : Int32) (x2 : Int32) (x3 : Int32) (s0 : Int32) (s1 : Int32) (g : nt_T) (h : nt_R (jMo_sheet_59 x1 x2 x3 s0 s1 g) (fun z => z = (r, g2))) : nt_G p l e (nt_rm 5) s m args below meth c w A 0 0 (nt_Qi w A below args s r g2) 5 59 [(0, .ref (nt_a w 0)), (1, .int x1), (2, .int x2), (3, .int x3)] [.int s0, .int s1, .ref (nt_a w 21)] g := by
  unfold jMo_sheet_59 at h
  obtain ⟨q8, h⟩ := nt_R_gd h
  refine nt_zast X 21 1 (nt_lM hw (Nat.le_of_ble_eq_true rfl)) (nt_m21 hw) (nt_tZ hw) q8 dX9_sheet_59 ?_
  obtain ⟨g9, eg9, h⟩ := nt_R_lt h
  refine nt_geq eg9 ?_
  refine nt_aload_n X dX9_sheet_60 rfl 0 rfl ?_
  refine nt_get X 0 inX9 (nt_lM hw (Nat.le_of_ble_eq_true rfl)) (nt_m0 hw) rfl (j := 48) (by decide) wd_670 (v := .ref (nt_a w 22)) rfl dX9_sheet_61 ?_
  refine nt_iload_n X dX9_sheet_64 rfl 1 rfl ?_
  refine nt_iload_n X dX9_sheet_65 rfl 2 rfl ?_
  obtain ⟨q10, h⟩ := nt_R_gd h
  refine nt_iast X 22 0 (nt_lM hw (Nat.le_of_ble_eq_true rfl)) (nt_m22 hw) (nt_tM hw) q10 dX9_sheet_66 ?_
  obtain ⟨g11, eg11, h⟩ := nt_R_lt h
  refine nt_geq eg11 ?_
  refine nt_aload_n X dX9_sheet_67 rfl 0 rfl ?_
  refine nt_get X 0 inX9 (nt_lM hw (Nat.le_of_ble_eq_true rfl)) (nt_m0 hw) rfl (j := 49) (by decide) wd_671 (v := .ref (nt_a w 23)) rfl dX9_sheet_68 ?_
  refine nt_iload_n X dX9_sheet_71 rfl 1 rfl ?_
  refine nt_iload_n X dX9_sheet_72 rfl 3 rfl ?_
  obtain ⟨q12, h⟩ := nt_R_gd h
  refine nt_iast X 23 0 (nt_lM hw (Nat.le_of_ble_eq_true rfl)) (nt_m23 hw) (nt_tM hw) q12 dX9_sheet_73 ?_
  obtain ⟨g13, eg13, h⟩ := nt_R_lt h
  refine nt_geq eg13 ?_
  refine nt_iconst X dX9_sheet_74 nt_ci_0 ?_
  refine nt_istore X [(4, .int (0 : Int32)), (0, .ref (nt_a w 0)), (1, .int x1), (2, .int x2), (3, .int x3)] dX9_sheet_75 (by decide) rfl ?_
  obtain ⟨z20, hz20, h⟩ := nt_R_b1 h
  refine nt_sub [1, 2, 3, 4, 0] rfl ?_
  refine tbMo_sheet_77 hw X x1 x2 x3 (Qx := fun z => z = z20) (fun g19 hq => ?_) nt_fu (0 : Int32) g13 ⟨_, hz20, rfl⟩
  subst hq
  refine nt_iconst X dX9_sheet_106 nt_ci_1 ?_
  have h := nt_R_some h
  exact nt_iret X dX9_sheet_107 h
def jMo_sheet_45 (x1 : Int32) (x2 : Int32) (x3 : Int32) (g : nt_T) : Option (Int32 × nt_T) :=
  (if x2 < 0 then
    (jMo_sheet_59 x1 x2 x3 (0 : Int32) x1 g)
  else
    (jMo_sheet_59 x1 x2 x3 (1 : Int32) x1 g))
set_option maxRecDepth 100000 in
set_option maxHeartbeats 4000000 in
theorem tjMo_sheet_45 {p : Program} {l : Launch} {e : Env} {s : State} {m : MethodId} {args : Array Value} {below : List Frame} {meth : Method} {c : Code} {w : nt_w} {A : Nat → Prop} (hw : nt_isM w) {r : Int32} {g2 : nt_T}  (X : nt_X cX9_sheet 5 RX9 (some .int) w A p s m args meth c) (x1 : Int32) (x2 : Int32) (x3 : Int32) (g : nt_T) (h : nt_R (jMo_sheet_45 x1 x2 x3 g) (fun z => z = (r, g2))) : nt_G p l e (nt_rm 5) s m args below meth c w A 0 0 (nt_Qi w A below args s r g2) 5 45 [(0, .ref (nt_a w 0)), (1, .int x1), (2, .int x2), (3, .int x3)] [] g := by
  unfold jMo_sheet_45 at h
  refine nt_aload_n X dX9_sheet_45 rfl 0 rfl ?_
  refine nt_get X 0 inX9 (nt_lM hw (Nat.le_of_ble_eq_true rfl)) (nt_m0 hw) rfl (j := 47) (by decide) wd_669 (v := .ref (nt_a w 21)) rfl dX9_sheet_46 ?_
  refine nt_iload_n X dX9_sheet_49 rfl 1 rfl ?_
  refine nt_iload_n X dX9_sheet_50 rfl 2 rfl ?_
  obtain ⟨ht, hf⟩ := nt_R_if h
  refine nt_if_lt X 58 dX9_sheet_51 (by decide) (fun q7 => ?_) (fun q7 => ?_)
  · have h := ht q7
    refine nt_iconst X dX9_sheet_58 nt_ci_0 ?_
    exact tjMo_sheet_59 hw X x1 x2 x3 (0 : Int32) x1 g h
  · have h := hf q7
    refine nt_iconst X dX9_sheet_54 nt_ci_1 ?_
    refine nt_goto X 59 dX9_sheet_55 (by decide) ?_
    exact tjMo_sheet_59 hw X x1 x2 x3 (1 : Int32) x1 g h
def jMo_sheet_34 (x1 : Int32) (x2 : Int32) (x3 : Int32) (g : nt_T) : Option (Int32 × nt_T) :=
  (if x2 < 0 then
    (jMo_sheet_45 x1 x2 x3 g)
  else
    ((if 0 ≤ x3 then
    (jMo_sheet_45 x1 x2 x3 g)
  else
    (some ((-14 : Int32), g)))))
set_option maxRecDepth 100000 in
set_option maxHeartbeats 4000000 in
theorem tjMo_sheet_34 {p : Program} {l : Launch} {e : Env} {s : State} {m : MethodId} {args : Array Value} {below : List Frame} {meth : Method} {c : Code} {w : nt_w} {A : Nat → Prop} (hw : nt_isM w) {r : Int32} {g2 : nt_T}  (X : nt_X cX9_sheet 5 RX9 (some .int) w A p s m args meth c) (x1 : Int32) (x2 : Int32) (x3 : Int32) (g : nt_T) (h : nt_R (jMo_sheet_34 x1 x2 x3 g) (fun z => z = (r, g2))) : nt_G p l e (nt_rm 5) s m args below meth c w A 0 0 (nt_Qi w A below args s r g2) 5 34 [(0, .ref (nt_a w 0)), (1, .int x1), (2, .int x2), (3, .int x3)] [] g := by
  unfold jMo_sheet_34 at h
  refine nt_iload_n X dX9_sheet_34 rfl 2 rfl ?_
  obtain ⟨ht, hf⟩ := nt_R_if h
  refine nt_if_lt X 45 dX9_sheet_35 (by decide) (fun q6 => ?_) (fun q6 => ?_)
  · have h := ht q6
    exact tjMo_sheet_45 hw X x1 x2 x3 g h
  · have h := hf q6
    refine nt_iload_n X dX9_sheet_38 rfl 3 rfl ?_
    obtain ⟨ht, hf⟩ := nt_R_if h
    refine nt_if_ge X 45 dX9_sheet_39 (by decide) (fun q21 => ?_) (fun q21 => ?_)
    · have h := ht q21
      exact tjMo_sheet_45 hw X x1 x2 x3 g h
    · have h := hf q21
      refine nt_bipush X dX9_sheet_42 nt_cb_m14 ?_
      have h := nt_R_some h
      exact nt_iret X dX9_sheet_44 h
def fMo_sheet (x1 : Int32) (x2 : Int32) (x3 : Int32) (g : nt_T) : Option (Int32 × nt_T) :=
  nt_b1 (fMo_isSheet x1 g) fun r1 => (if r1 = 0 then
    (some ((-2 : Int32), g))
  else
    (nt_b1 (fMo_in (Int32.toInt64 x2) (-1 : Int64) (2 : Int64) g) fun r3 => (if r3 = 0 then
    (some ((-2 : Int32), g))
  else
    ((if x2 < 0 then
    (jMo_sheet_34 x1 x2 x3 g)
  else
    ((if x3 ≤ (40 : Int32) then
    (jMo_sheet_34 x1 x2 x3 g)
  else
    (some ((-2 : Int32), g)))))))))
set_option maxRecDepth 100000 in
set_option maxHeartbeats 4000000 in
theorem cMo_sheet {l : Launch} {w : nt_w} (hw : nt_isM w) {x1 : Int32} {x2 : Int32} {x3 : Int32} {g : nt_T} {r : Int32} {g2 : nt_T} (hf : fMo_sheet x1 x2 x3 g = some (r, g2)) : nt_Mi l w yX9_sheet cX9_sheet 5 (some .int) 5 [.ref (nt_a w 0), .int x1, .int x2, .int x3] g r g2 := by
  refine nt_Mi_of (by decide) (Nat.le_of_ble_eq_true rfl) (fun p e s m args below meth c A X => ?_)
  have X : nt_X cX9_sheet 5 RX9 (some .int) w A p s m args meth c := X
  have h : nt_R (fMo_sheet x1 x2 x3 g) (fun z => z = (r, g2)) := ⟨_, hf, rfl⟩
  unfold fMo_sheet at h
  show nt_G p l e (nt_rm 5) s m args below meth c w A 0 0 (nt_Qi w A below args s r g2) 5 0 [(0, .ref (nt_a w 0)), (1, .int x1), (2, .int x2), (3, .int x3)] [] g
  refine nt_iload_n X dX9_sheet_0 rfl 1 rfl ?_
  obtain ⟨r1, er1, h⟩ := nt_R_b1 h
  refine nt_cSi X (As := [.int x1]) (cMo_isSheet hw er1) wd_961 wd_959 wd_960 wd_16 hd_X9_isSheet ⟨Nat.le_of_ble_eq_true rfl, Nat.le_of_ble_eq_true rfl⟩ ⟨Nat.le_refl 0, Nat.le_refl 0⟩ (Nat.le_of_ble_eq_true rfl) rfl dX9_sheet_1 ?_
  obtain ⟨ht, hf⟩ := nt_R_if h
  refine nt_if_eq X 31 dX9_sheet_4 (by decide) (fun q2 => ?_) (fun q2 => ?_)
  · have h := ht q2
    refine nt_bipush X dX9_sheet_31 nt_cb_m2 ?_
    have h := nt_R_some h
    exact nt_iret X dX9_sheet_33 h
  · have h := hf q2
    refine nt_iload_n X dX9_sheet_7 rfl 2 rfl ?_
    refine nt_i2l X dX9_sheet_8 rfl ?_
    refine nt_ldc2 X wd_985 dX9_sheet_9 ?_
    refine nt_ldc2 X wd_754 dX9_sheet_12 ?_
    obtain ⟨r3, er3, h⟩ := nt_R_b1 h
    refine nt_cSi X (As := [.long (Int32.toInt64 x2), .long (-1 : Int64), .long (2 : Int64)]) (cMo_in hw er3) wd_732 wd_730 wd_731 wd_16 hd_X9_in ⟨Nat.le_of_ble_eq_true rfl, Nat.le_of_ble_eq_true rfl⟩ ⟨Nat.le_refl 0, Nat.le_refl 0⟩ (Nat.le_of_ble_eq_true rfl) rfl dX9_sheet_15 ?_
    obtain ⟨ht, hf⟩ := nt_R_if h
    refine nt_if_eq X 31 dX9_sheet_18 (by decide) (fun q4 => ?_) (fun q4 => ?_)
    · have h := ht q4
      refine nt_bipush X dX9_sheet_31 nt_cb_m2 ?_
      have h := nt_R_some h
      exact nt_iret X dX9_sheet_33 h
    · have h := hf q4
      refine nt_iload_n X dX9_sheet_21 rfl 2 rfl ?_
      obtain ⟨ht, hf⟩ := nt_R_if h
      refine nt_if_lt X 34 dX9_sheet_22 (by decide) (fun q5 => ?_) (fun q5 => ?_)
      · have h := ht q5
        exact tjMo_sheet_34 hw X x1 x2 x3 g h
      · have h := hf q5
        refine nt_iload_n X dX9_sheet_25 rfl 3 rfl ?_
        refine nt_bipush X dX9_sheet_26 nt_cb_40 ?_
        obtain ⟨ht, hf⟩ := nt_R_if h
        refine nt_icmp_le X 34 dX9_sheet_28 (by decide) (fun q22 => ?_) (fun q22 => ?_)
        · have h := ht q22
          exact tjMo_sheet_34 hw X x1 x2 x3 g h
        · have h := hf q22
          refine nt_bipush X dX9_sheet_31 nt_cb_m2 ?_
          have h := nt_R_some h
          exact nt_iret X dX9_sheet_33 h
def jMo_cell_83 (s0 : Int32) (s1 : Int32) (g : nt_T) : Option (Int32 × nt_T) :=
  nt_gd (nt_in s1 160) <| nt_lt (nt_st g 24 (Int32.toNatClampNeg s1) s0) fun g13 => some ((1 : Int32), g13)
set_option maxRecDepth 100000 in
set_option maxHeartbeats 4000000 in
theorem tjMo_cell_83 {p : Program} {l : Launch} {e : Env} {s : State} {m : MethodId} {args : Array Value} {below : List Frame} {meth : Method} {c : Code} {w : nt_w} {A : Nat → Prop} (hw : nt_isM w) {r : Int32} {g2 : nt_T}  (X : nt_X cX9_cell 4 RX9 (some .int) w A p s m args meth c) (s0 : Int32) (s1 : Int32) (g : nt_T) (h : nt_R (jMo_cell_83 s0 s1 g) (fun z => z = (r, g2))) : nt_G p l e (nt_rm 5) s m args below meth c w A 0 0 (nt_Qi w A below args s r g2) 4 83 [(0, .ref (nt_a w 0))] [.int s0, .int s1, .ref (nt_a w 24)] g := by
  unfold jMo_cell_83 at h
  obtain ⟨q12, h⟩ := nt_R_gd h
  refine nt_iast X 24 0 (nt_lM hw (Nat.le_of_ble_eq_true rfl)) (nt_m24 hw) (nt_tM hw) q12 dX9_cell_83 ?_
  obtain ⟨g13, eg13, h⟩ := nt_R_lt h
  refine nt_geq eg13 ?_
  refine nt_iconst X dX9_cell_84 nt_ci_1 ?_
  have h := nt_R_some h
  exact nt_iret X dX9_cell_85 h
def fMo_cell (x1 : Int32) (x2 : Int32) (x3 : Int32) (g : nt_T) : Option (Int32 × nt_T) :=
  nt_b1 (fMo_isSheet x1 g) fun r1 => (if r1 = 0 then
    (some ((-2 : Int32), g))
  else
    (nt_gd (nt_in x1 4) <| (if (g 21 (Int32.toNatClampNeg x1)) = 0 then
    (some ((-11 : Int32), g))
  else
    (nt_gd (nt_in x1 4) <| nt_b1 (fMo_in (Int32.toInt64 x2) (0 : Int64) (Int32.toInt64 ((g 23 (Int32.toNatClampNeg x1)) - (1 : Int32))) g) fun r6 => (if r6 = 0 then
    (some ((-12 : Int32), g))
  else
    (nt_gd (nt_in x1 4) <| (if (g 22 (Int32.toNatClampNeg x1)) = 0 then
    (jMo_cell_83 (nt_i8 x3) (((40 : Int32) * x1) + x2) g)
  else
    (nt_gd (nt_in x1 4) <| (if (g 22 (Int32.toNatClampNeg x1)) = (1 : Int32) then
    (jMo_cell_83 (nt_i16 x3) (((40 : Int32) * x1) + x2) g)
  else
    (jMo_cell_83 x3 (((40 : Int32) * x1) + x2) g))))))))))
set_option maxRecDepth 100000 in
set_option maxHeartbeats 4000000 in
theorem cMo_cell {l : Launch} {w : nt_w} (hw : nt_isM w) {x1 : Int32} {x2 : Int32} {x3 : Int32} {g : nt_T} {r : Int32} {g2 : nt_T} (hf : fMo_cell x1 x2 x3 g = some (r, g2)) : nt_Mi l w yX9_cell cX9_cell 4 (some .int) 5 [.ref (nt_a w 0), .int x1, .int x2, .int x3] g r g2 := by
  refine nt_Mi_of (by decide) (Nat.le_of_ble_eq_true rfl) (fun p e s m args below meth c A X => ?_)
  have X : nt_X cX9_cell 4 RX9 (some .int) w A p s m args meth c := X
  have h : nt_R (fMo_cell x1 x2 x3 g) (fun z => z = (r, g2)) := ⟨_, hf, rfl⟩
  unfold fMo_cell at h
  show nt_G p l e (nt_rm 5) s m args below meth c w A 0 0 (nt_Qi w A below args s r g2) 4 0 [(0, .ref (nt_a w 0)), (1, .int x1), (2, .int x2), (3, .int x3)] [] g
  refine nt_iload_n X dX9_cell_0 rfl 1 rfl ?_
  obtain ⟨r1, er1, h⟩ := nt_R_b1 h
  refine nt_cSi X (As := [.int x1]) (cMo_isSheet hw er1) wd_961 wd_959 wd_960 wd_16 hd_X9_isSheet ⟨Nat.le_of_ble_eq_true rfl, Nat.le_of_ble_eq_true rfl⟩ ⟨Nat.le_refl 0, Nat.le_refl 0⟩ (Nat.le_of_ble_eq_true rfl) rfl dX9_cell_1 ?_
  obtain ⟨ht, hf⟩ := nt_R_if h
  refine nt_if_ne X 10 dX9_cell_4 (by decide) (fun q2 => ?_) (fun q2 => ?_)
  · have h := hf q2
    refine nt_aload_n X dX9_cell_10 rfl 0 rfl ?_
    refine nt_get X 0 inX9 (nt_lM hw (Nat.le_of_ble_eq_true rfl)) (nt_m0 hw) rfl (j := 47) (by decide) wd_669 (v := .ref (nt_a w 21)) rfl dX9_cell_11 ?_
    refine nt_iload_n X dX9_cell_14 rfl 1 rfl ?_
    obtain ⟨q3, h⟩ := nt_R_gd h
    refine nt_zald X 21 1 (nt_lM hw (Nat.le_of_ble_eq_true rfl)) (nt_m21 hw) (nt_tZ hw) q3 dX9_cell_15 ?_
    obtain ⟨ht, hf⟩ := nt_R_if h
    refine nt_if_ne X 22 dX9_cell_16 (by decide) (fun q4 => ?_) (fun q4 => ?_)
    · have h := hf q4
      refine nt_iload_n X dX9_cell_22 rfl 2 rfl ?_
      refine nt_i2l X dX9_cell_23 rfl ?_
      refine nt_lconst X dX9_cell_24 nt_cl_0 ?_
      refine nt_aload_n X dX9_cell_25 rfl 0 rfl ?_
      refine nt_get X 0 inX9 (nt_lM hw (Nat.le_of_ble_eq_true rfl)) (nt_m0 hw) rfl (j := 49) (by decide) wd_671 (v := .ref (nt_a w 23)) rfl dX9_cell_26 ?_
      refine nt_iload_n X dX9_cell_29 rfl 1 rfl ?_
      obtain ⟨q5, h⟩ := nt_R_gd h
      refine nt_iald X 23 0 (nt_lM hw (Nat.le_of_ble_eq_true rfl)) (nt_m23 hw) (nt_tM hw) q5 dX9_cell_30 ?_
      refine nt_iconst X dX9_cell_31 nt_ci_1 ?_
      refine nt_isub X dX9_cell_32 ?_
      refine nt_i2l X dX9_cell_33 rfl ?_
      obtain ⟨r6, er6, h⟩ := nt_R_b1 h
      refine nt_cSi X (As := [.long (Int32.toInt64 x2), .long (0 : Int64), .long (Int32.toInt64 ((g 23 (Int32.toNatClampNeg x1)) - (1 : Int32)))]) (cMo_in hw er6) wd_732 wd_730 wd_731 wd_16 hd_X9_in ⟨Nat.le_of_ble_eq_true rfl, Nat.le_of_ble_eq_true rfl⟩ ⟨Nat.le_refl 0, Nat.le_refl 0⟩ (Nat.le_of_ble_eq_true rfl) rfl dX9_cell_34 ?_
      obtain ⟨ht, hf⟩ := nt_R_if h
      refine nt_if_ne X 43 dX9_cell_37 (by decide) (fun q7 => ?_) (fun q7 => ?_)
      · have h := hf q7
        refine nt_aload_n X dX9_cell_43 rfl 0 rfl ?_
        refine nt_get X 0 inX9 (nt_lM hw (Nat.le_of_ble_eq_true rfl)) (nt_m0 hw) rfl (j := 50) (by decide) wd_672 (v := .ref (nt_a w 24)) rfl dX9_cell_44 ?_
        refine nt_bipush X dX9_cell_47 nt_cb_40 ?_
        refine nt_iload_n X dX9_cell_49 rfl 1 rfl ?_
        refine nt_imul X dX9_cell_50 ?_
        refine nt_iload_n X dX9_cell_51 rfl 2 rfl ?_
        refine nt_iadd X dX9_cell_52 ?_
        refine nt_aload_n X dX9_cell_53 rfl 0 rfl ?_
        refine nt_get X 0 inX9 (nt_lM hw (Nat.le_of_ble_eq_true rfl)) (nt_m0 hw) rfl (j := 48) (by decide) wd_670 (v := .ref (nt_a w 22)) rfl dX9_cell_54 ?_
        refine nt_iload_n X dX9_cell_57 rfl 1 rfl ?_
        obtain ⟨q8, h⟩ := nt_R_gd h
        refine nt_iald X 22 0 (nt_lM hw (Nat.le_of_ble_eq_true rfl)) (nt_m22 hw) (nt_tM hw) q8 dX9_cell_58 ?_
        obtain ⟨ht, hf⟩ := nt_R_if h
        refine nt_if_ne X 67 dX9_cell_59 (by decide) (fun q9 => ?_) (fun q9 => ?_)
        · have h := hf q9
          refine nt_aload_n X dX9_cell_67 rfl 0 rfl ?_
          refine nt_get X 0 inX9 (nt_lM hw (Nat.le_of_ble_eq_true rfl)) (nt_m0 hw) rfl (j := 48) (by decide) wd_670 (v := .ref (nt_a w 22)) rfl dX9_cell_68 ?_
          refine nt_iload_n X dX9_cell_71 rfl 1 rfl ?_
          obtain ⟨q10, h⟩ := nt_R_gd h
          refine nt_iald X 22 0 (nt_lM hw (Nat.le_of_ble_eq_true rfl)) (nt_m22 hw) (nt_tM hw) q10 dX9_cell_72 ?_
          refine nt_iconst X dX9_cell_73 nt_ci_1 ?_
          obtain ⟨ht, hf⟩ := nt_R_if h
          refine nt_icmp_ne X 82 dX9_cell_74 (by decide) (fun q11 => ?_) (fun q11 => ?_)
          · have h := hf q11
            refine nt_iload_n X dX9_cell_82 rfl 3 rfl ?_
            refine nt_sub [0] rfl ?_
            exact tjMo_cell_83 hw X x3 (((40 : Int32) * x1) + x2) g h
          · have h := ht q11
            refine nt_iload_n X dX9_cell_77 rfl 3 rfl ?_
            refine nt_i2s X (v := nt_i16 x3) dX9_cell_78 rfl ?_
            refine nt_goto X 83 dX9_cell_79 (by decide) ?_
            refine nt_sub [0] rfl ?_
            exact tjMo_cell_83 hw X (nt_i16 x3) (((40 : Int32) * x1) + x2) g h
        · have h := ht q9
          refine nt_iload_n X dX9_cell_62 rfl 3 rfl ?_
          refine nt_i2b X (v := nt_i8 x3) dX9_cell_63 rfl ?_
          refine nt_goto X 83 dX9_cell_64 (by decide) ?_
          refine nt_sub [0] rfl ?_
          exact tjMo_cell_83 hw X (nt_i8 x3) (((40 : Int32) * x1) + x2) g h
      · have h := ht q7
        refine nt_bipush X dX9_cell_40 nt_cb_m12 ?_
        have h := nt_R_some h
        exact nt_iret X dX9_cell_42 h
    · have h := ht q4
      refine nt_bipush X dX9_cell_19 nt_cb_m11 ?_
      have h := nt_R_some h
      exact nt_iret X dX9_cell_21 h
  · have h := ht q2
    refine nt_bipush X dX9_cell_7 nt_cb_m2 ?_
    have h := nt_R_some h
    exact nt_iret X dX9_cell_9 h
def jMo_copy_145 (x1 : Int32) (x2 : Int32) (x3 : Int32) (x4 : Int32) (x5 : Int32) (x6 : Int32) (x7 : Int32) (s0 : Int32) (g : nt_T) : Option ((Int32 × nt_T) ⊕ ((nt_T))) :=
  nt_gd (nt_in ((((40 : Int32) * x1) + x2) + s0) 160) <| nt_gd (nt_in ((((40 : Int32) * x3) + x4) + s0) 160) <| nt_lt (nt_st g 24 (Int32.toNatClampNeg ((((40 : Int32) * x3) + x4) + s0)) (g 24 (Int32.toNatClampNeg ((((40 : Int32) * x1) + x2) + s0)))) fun g24 => nt_lt (x7 + (1 : Int32)) fun v25 => some (.inl (v25, g24))
set_option maxRecDepth 100000 in
set_option maxHeartbeats 4000000 in
theorem tjMo_copy_145 {p : Program} {l : Launch} {e : Env} {s : State} {m : MethodId} {args : Array Value} {below : List Frame} {meth : Method} {c : Code} {w : nt_w} {A : Nat → Prop} (hw : nt_isM w) {Q : State → Prop} (X : nt_X cX9_copy 9 RX9 (some .int) w A p s m args meth c) (x1 : Int32) (x2 : Int32) (x3 : Int32) (x4 : Int32) (x5 : Int32) (x6 : Int32) (x7 : Int32) (s0 : Int32) (g : nt_T) {Qz : (Int32 × nt_T) ⊕ ((nt_T)) → Prop} (hI : ∀ (y7 : Int32) (gy : nt_T), Qz (.inl (y7, gy)) → nt_G p l e (nt_rm 5) s m args below meth c w A 0 0 Q 9 121 [(0, .ref (nt_a w 0)), (1, .int x1), (2, .int x2), (3, .int x3), (4, .int x4), (5, .int x5), (6, .int x6), (7, .int y7)] [] gy) (hE0 : ∀ (gy : nt_T), Qz (.inr gy) → nt_G p l e (nt_rm 5) s m args below meth c w A 0 0 Q 9 182 [(0, .ref (nt_a w 0)), (1, .int x1), (2, .int x2), (3, .int x3), (4, .int x4), (5, .int x5), (6, .int x6)] [] gy) (h : nt_R (jMo_copy_145 x1 x2 x3 x4 x5 x6 x7 s0 g) Qz) : nt_G p l e (nt_rm 5) s m args below meth c w A 0 0 Q 9 145 [(0, .ref (nt_a w 0)), (1, .int x1), (2, .int x2), (3, .int x3), (4, .int x4), (5, .int x5), (6, .int x6), (7, .int x7)] [.int s0] g := by
  unfold jMo_copy_145 at h
  refine nt_istore X [(8, .int s0), (0, .ref (nt_a w 0)), (1, .int x1), (2, .int x2), (3, .int x3), (4, .int x4), (5, .int x5), (6, .int x6), (7, .int x7)] dX9_copy_145 (by decide) rfl ?_
  refine nt_aload_n X dX9_copy_147 rfl 1 rfl ?_
  refine nt_get X 0 inX9 (nt_lM hw (Nat.le_of_ble_eq_true rfl)) (nt_m0 hw) rfl (j := 50) (by decide) wd_672 (v := .ref (nt_a w 24)) rfl dX9_copy_148 ?_
  refine nt_bipush X dX9_copy_151 nt_cb_40 ?_
  refine nt_iload_n X dX9_copy_153 rfl 4 rfl ?_
  refine nt_imul X dX9_copy_154 ?_
  refine nt_iload X dX9_copy_155 5 rfl ?_
  refine nt_iadd X dX9_copy_157 ?_
  refine nt_iload X dX9_copy_158 0 rfl ?_
  refine nt_iadd X dX9_copy_160 ?_
  refine nt_aload_n X dX9_copy_161 rfl 1 rfl ?_
  refine nt_get X 0 inX9 (nt_lM hw (Nat.le_of_ble_eq_true rfl)) (nt_m0 hw) rfl (j := 50) (by decide) wd_672 (v := .ref (nt_a w 24)) rfl dX9_copy_162 ?_
  refine nt_bipush X dX9_copy_165 nt_cb_40 ?_
  refine nt_iload_n X dX9_copy_167 rfl 2 rfl ?_
  refine nt_imul X dX9_copy_168 ?_
  refine nt_iload_n X dX9_copy_169 rfl 3 rfl ?_
  refine nt_iadd X dX9_copy_170 ?_
  refine nt_iload X dX9_copy_171 0 rfl ?_
  refine nt_iadd X dX9_copy_173 ?_
  obtain ⟨q22, h⟩ := nt_R_gd h
  refine nt_iald X 24 0 (nt_lM hw (Nat.le_of_ble_eq_true rfl)) (nt_m24 hw) (nt_tM hw) q22 dX9_copy_174 ?_
  obtain ⟨q23, h⟩ := nt_R_gd h
  refine nt_iast X 24 0 (nt_lM hw (Nat.le_of_ble_eq_true rfl)) (nt_m24 hw) (nt_tM hw) q23 dX9_copy_175 ?_
  obtain ⟨g24, eg24, h⟩ := nt_R_lt h
  refine nt_geq eg24 ?_
  obtain ⟨v25, ev25, h⟩ := nt_R_lt h
  refine nt_iinc X v25 [(7, .int v25), (8, .int s0), (0, .ref (nt_a w 0)), (1, .int x1), (2, .int x2), (3, .int x3), (4, .int x4), (5, .int x5), (6, .int x6)] dX9_copy_176 8 rfl (by rw [nt_ci_1]; exact ev25) (by decide) rfl ?_
  refine nt_goto X 121 dX9_copy_179 (by decide) ?_
  refine nt_sub [2, 3, 4, 5, 6, 7, 8, 0] rfl ?_
  have h := nt_R_some h
  exact hI v25 g24 h
def bMo_copy_121 (x1 : Int32) (x2 : Int32) (x3 : Int32) (x4 : Int32) (x5 : Int32) (x6 : Int32) (x7 : Int32) (g : nt_T) : Option ((Int32 × nt_T) ⊕ ((nt_T))) :=
  (if x5 ≤ x7 then
    (some (.inr g))
  else
    ((if x6 = 0 then
    (jMo_copy_145 x1 x2 x3 x4 x5 x6 x7 x7 g)
  else
    (jMo_copy_145 x1 x2 x3 x4 x5 x6 x7 ((x5 - (1 : Int32)) - x7) g))))
set_option maxRecDepth 100000 in
set_option maxHeartbeats 4000000 in
theorem tbMo_copy_121 {p : Program} {l : Launch} {e : Env} {s : State} {m : MethodId} {args : Array Value} {below : List Frame} {meth : Method} {c : Code} {w : nt_w} {A : Nat → Prop} (hw : nt_isM w) {Q : State → Prop} (X : nt_X cX9_copy 9 RX9 (some .int) w A p s m args meth c) (x1 : Int32) (x2 : Int32) (x3 : Int32) (x4 : Int32) (x5 : Int32) (x6 : Int32)  {Qx : ((nt_T)) → Prop} (hE0 : ∀ (gy : nt_T), Qx gy → nt_G p l e (nt_rm 5) s m args below meth c w A 0 0 Q 9 182 [(0, .ref (nt_a w 0)), (1, .int x1), (2, .int x2), (3, .int x3), (4, .int x4), (5, .int x5), (6, .int x6)] [] gy) : ∀ (n : Nat) (x7 : Int32) (g : nt_T), nt_R (nt_it (fun z => bMo_copy_121 x1 x2 x3 x4 x5 x6 z.1 z.2) n (x7, g)) Qx → nt_G p l e (nt_rm 5) s m args below meth c w A 0 0 Q 9 121 [(0, .ref (nt_a w 0)), (1, .int x1), (2, .int x2), (3, .int x3), (4, .int x4), (5, .int x5), (6, .int x6), (7, .int x7)] [] g := by
  intro n
  induction n with
  | zero =>
    intro x7 g h
    exact nt_R_none h
  | succ n ih =>
    intro x7 g h
    have h : nt_R (bMo_copy_121 x1 x2 x3 x4 x5 x6 x7 g) (nt_Qz (fun z => bMo_copy_121 x1 x2 x3 x4 x5 x6 z.1 z.2) n Qx) := nt_R_it h
    have hI : ∀ (y7 : Int32) (gy : nt_T), nt_Qz (fun z => bMo_copy_121 x1 x2 x3 x4 x5 x6 z.1 z.2) n Qx (.inl (y7, gy)) → nt_G p l e (nt_rm 5) s m args below meth c w A 0 0 Q 9 121 [(0, .ref (nt_a w 0)), (1, .int x1), (2, .int x2), (3, .int x3), (4, .int x4), (5, .int x5), (6, .int x6), (7, .int y7)] [] gy := fun y7 gy q => ih y7 gy q
    have hE0 : ∀ (gy : nt_T), nt_Qz (fun z => bMo_copy_121 x1 x2 x3 x4 x5 x6 z.1 z.2) n Qx (.inr gy) → nt_G p l e (nt_rm 5) s m args below meth c w A 0 0 Q 9 182 [(0, .ref (nt_a w 0)), (1, .int x1), (2, .int x2), (3, .int x3), (4, .int x4), (5, .int x5), (6, .int x6)] [] gy := hE0
    generalize nt_Qz (fun z => bMo_copy_121 x1 x2 x3 x4 x5 x6 z.1 z.2) n Qx = Qz at h hI hE0
    unfold bMo_copy_121 at h
    refine nt_iload X dX9_copy_121 7 rfl ?_
    refine nt_iload X dX9_copy_123 5 rfl ?_
    obtain ⟨ht, hf⟩ := nt_R_if h
    refine nt_icmp_ge X 182 dX9_copy_125 (by decide) (fun q20 => ?_) (fun q20 => ?_)
    · have h := ht q20
      refine nt_sub [0, 1, 2, 3, 4, 5, 6] rfl ?_
      have h := nt_R_some h
      exact hE0 g h
    · have h := hf q20
      refine nt_iload X dX9_copy_128 6 rfl ?_
      obtain ⟨ht, hf⟩ := nt_R_if h
      refine nt_if_eq X 143 dX9_copy_130 (by decide) (fun q21 => ?_) (fun q21 => ?_)
      · have h := ht q21
        refine nt_iload X dX9_copy_143 7 rfl ?_
        exact tjMo_copy_145 hw X x1 x2 x3 x4 x5 x6 x7 x7 g hI hE0 h
      · have h := hf q21
        refine nt_iload X dX9_copy_133 5 rfl ?_
        refine nt_iconst X dX9_copy_135 nt_ci_1 ?_
        refine nt_isub X dX9_copy_136 ?_
        refine nt_iload X dX9_copy_137 7 rfl ?_
        refine nt_isub X dX9_copy_139 ?_
        refine nt_goto X 145 dX9_copy_140 (by decide) ?_
        exact tjMo_copy_145 hw X x1 x2 x3 x4 x5 x6 x7 ((x5 - (1 : Int32)) - x7) g hI hE0 h
def jMo_copy_116 (x1 : Int32) (x2 : Int32) (x3 : Int32) (x4 : Int32) (x5 : Int32) (s0 : Int32) (g : nt_T) : Option (Int32 × nt_T) :=
  (nt_b1 (nt_it (fun z => bMo_copy_121 x1 x2 x3 x4 x5 s0 z.1 z.2) nt_fu ((0 : Int32), g)) fun g26 => some (x5, g26))
set_option maxRecDepth 100000 in
set_option maxHeartbeats 4000000 in
theorem tjMo_copy_116 {p : Program} {l : Launch} {e : Env} {s : State} {m : MethodId} {args : Array Value} {below : List Frame} {meth : Method} {c : Code} {w : nt_w} {A : Nat → Prop} (hw : nt_isM w) {r : Int32} {g2 : nt_T}  (X : nt_X cX9_copy 9 RX9 (some .int) w A p s m args meth c) (x1 : Int32) (x2 : Int32) (x3 : Int32) (x4 : Int32) (x5 : Int32) (s0 : Int32) (g : nt_T) (h : nt_R (jMo_copy_116 x1 x2 x3 x4 x5 s0 g) (fun z => z = (r, g2))) : nt_G p l e (nt_rm 5) s m args below meth c w A 0 0 (nt_Qi w A below args s r g2) 9 116 [(0, .ref (nt_a w 0)), (1, .int x1), (2, .int x2), (3, .int x3), (4, .int x4), (5, .int x5)] [.int s0] g := by
  unfold jMo_copy_116 at h
  refine nt_istore X [(6, .int s0), (0, .ref (nt_a w 0)), (1, .int x1), (2, .int x2), (3, .int x3), (4, .int x4), (5, .int x5)] dX9_copy_116 (by decide) rfl ?_
  refine nt_iconst X dX9_copy_118 nt_ci_0 ?_
  refine nt_istore X [(7, .int (0 : Int32)), (6, .int s0), (0, .ref (nt_a w 0)), (1, .int x1), (2, .int x2), (3, .int x3), (4, .int x4), (5, .int x5)] dX9_copy_119 (by decide) rfl ?_
  obtain ⟨z27, hz27, h⟩ := nt_R_b1 h
  refine nt_sub [2, 3, 4, 5, 6, 7, 1, 0] rfl ?_
  refine tbMo_copy_121 hw X x1 x2 x3 x4 x5 s0 (Qx := fun z => z = z27) (fun g26 hq => ?_) nt_fu (0 : Int32) g ⟨_, hz27, rfl⟩
  subst hq
  refine nt_iload X dX9_copy_182 5 rfl ?_
  have h := nt_R_some h
  exact nt_iret X dX9_copy_184 h
def jMo_copy_115 (x1 : Int32) (x2 : Int32) (x3 : Int32) (x4 : Int32) (x5 : Int32) (g : nt_T) : Option (Int32 × nt_T) :=
  jMo_copy_116 x1 x2 x3 x4 x5 (0 : Int32) g
set_option maxRecDepth 100000 in
set_option maxHeartbeats 4000000 in
theorem tjMo_copy_115 {p : Program} {l : Launch} {e : Env} {s : State} {m : MethodId} {args : Array Value} {below : List Frame} {meth : Method} {c : Code} {w : nt_w} {A : Nat → Prop} (hw : nt_isM w) {r : Int32} {g2 : nt_T}  (X : nt_X cX9_copy 9 RX9 (some .int) w A p s m args meth c) (x1 : Int32) (x2 : Int32) (x3 : Int32) (x4 : Int32) (x5 : Int32) (g : nt_T) (h : nt_R (jMo_copy_115 x1 x2 x3 x4 x5 g) (fun z => z = (r, g2))) : nt_G p l e (nt_rm 5) s m args below meth c w A 0 0 (nt_Qi w A below args s r g2) 9 115 [(0, .ref (nt_a w 0)), (1, .int x1), (2, .int x2), (3, .int x3), (4, .int x4), (5, .int x5)] [] g := by
  unfold jMo_copy_115 at h
  refine nt_iconst X dX9_copy_115 nt_ci_0 ?_
  exact tjMo_copy_116 hw X x1 x2 x3 x4 x5 (0 : Int32) g h
def fMo_copy (x1 : Int32) (x2 : Int32) (x3 : Int32) (x4 : Int32) (x5 : Int32) (g : nt_T) : Option (Int32 × nt_T) :=
  nt_b1 (fMo_isSheet x1 g) fun r1 => (if r1 = 0 then
    (some ((-2 : Int32), g))
  else
    (nt_b1 (fMo_isSheet x3 g) fun r3 => (if r3 = 0 then
    (some ((-2 : Int32), g))
  else
    (nt_gd (nt_in x1 4) <| (if (g 21 (Int32.toNatClampNeg x1)) = 0 then
    (some ((-11 : Int32), g))
  else
    (nt_gd (nt_in x3 4) <| (if (g 21 (Int32.toNatClampNeg x3)) = 0 then
    (some ((-11 : Int32), g))
  else
    (nt_gd (nt_in x1 4) <| nt_gd (nt_in x3 4) <| (if (g 22 (Int32.toNatClampNeg x1)) = (g 22 (Int32.toNatClampNeg x3)) then
    ((if x5 < 0 then
    (some ((-12 : Int32), g))
  else
    ((if x2 < 0 then
    (some ((-12 : Int32), g))
  else
    ((if x4 < 0 then
    (some ((-12 : Int32), g))
  else
    (nt_gd (nt_in x1 4) <| (if ((g 23 (Int32.toNatClampNeg x1)) - x5) < x2 then
    (some ((-12 : Int32), g))
  else
    (nt_gd (nt_in x3 4) <| (if x4 ≤ ((g 23 (Int32.toNatClampNeg x3)) - x5) then
    ((if x1 = x3 then
    ((if x4 ≤ x2 then
    (jMo_copy_115 x1 x2 x3 x4 x5 g)
  else
    (jMo_copy_116 x1 x2 x3 x4 x5 (1 : Int32) g)))
  else
    (jMo_copy_115 x1 x2 x3 x4 x5 g)))
  else
    (some ((-12 : Int32), g))))))))))))
  else
    (some ((-13 : Int32), g)))))))))))
set_option maxRecDepth 100000 in
set_option maxHeartbeats 4000000 in
theorem cMo_copy {l : Launch} {w : nt_w} (hw : nt_isM w) {x1 : Int32} {x2 : Int32} {x3 : Int32} {x4 : Int32} {x5 : Int32} {g : nt_T} {r : Int32} {g2 : nt_T} (hf : fMo_copy x1 x2 x3 x4 x5 g = some (r, g2)) : nt_Mi l w yX9_copy cX9_copy 9 (some .int) 5 [.ref (nt_a w 0), .int x1, .int x2, .int x3, .int x4, .int x5] g r g2 := by
  refine nt_Mi_of (by decide) (Nat.le_of_ble_eq_true rfl) (fun p e s m args below meth c A X => ?_)
  have X : nt_X cX9_copy 9 RX9 (some .int) w A p s m args meth c := X
  have h : nt_R (fMo_copy x1 x2 x3 x4 x5 g) (fun z => z = (r, g2)) := ⟨_, hf, rfl⟩
  unfold fMo_copy at h
  show nt_G p l e (nt_rm 5) s m args below meth c w A 0 0 (nt_Qi w A below args s r g2) 9 0 [(0, .ref (nt_a w 0)), (1, .int x1), (2, .int x2), (3, .int x3), (4, .int x4), (5, .int x5)] [] g
  refine nt_iload_n X dX9_copy_0 rfl 1 rfl ?_
  obtain ⟨r1, er1, h⟩ := nt_R_b1 h
  refine nt_cSi X (As := [.int x1]) (cMo_isSheet hw er1) wd_961 wd_959 wd_960 wd_16 hd_X9_isSheet ⟨Nat.le_of_ble_eq_true rfl, Nat.le_of_ble_eq_true rfl⟩ ⟨Nat.le_refl 0, Nat.le_refl 0⟩ (Nat.le_of_ble_eq_true rfl) rfl dX9_copy_1 ?_
  obtain ⟨ht, hf⟩ := nt_R_if h
  refine nt_if_eq X 14 dX9_copy_4 (by decide) (fun q2 => ?_) (fun q2 => ?_)
  · have h := ht q2
    refine nt_bipush X dX9_copy_14 nt_cb_m2 ?_
    have h := nt_R_some h
    exact nt_iret X dX9_copy_16 h
  · have h := hf q2
    refine nt_iload_n X dX9_copy_7 rfl 3 rfl ?_
    obtain ⟨r3, er3, h⟩ := nt_R_b1 h
    refine nt_cSi X (As := [.int x3]) (cMo_isSheet hw er3) wd_961 wd_959 wd_960 wd_16 hd_X9_isSheet ⟨Nat.le_of_ble_eq_true rfl, Nat.le_of_ble_eq_true rfl⟩ ⟨Nat.le_refl 0, Nat.le_refl 0⟩ (Nat.le_of_ble_eq_true rfl) rfl dX9_copy_8 ?_
    obtain ⟨ht, hf⟩ := nt_R_if h
    refine nt_if_ne X 17 dX9_copy_11 (by decide) (fun q4 => ?_) (fun q4 => ?_)
    · have h := hf q4
      refine nt_aload_n X dX9_copy_17 rfl 0 rfl ?_
      refine nt_get X 0 inX9 (nt_lM hw (Nat.le_of_ble_eq_true rfl)) (nt_m0 hw) rfl (j := 47) (by decide) wd_669 (v := .ref (nt_a w 21)) rfl dX9_copy_18 ?_
      refine nt_iload_n X dX9_copy_21 rfl 1 rfl ?_
      obtain ⟨q5, h⟩ := nt_R_gd h
      refine nt_zald X 21 1 (nt_lM hw (Nat.le_of_ble_eq_true rfl)) (nt_m21 hw) (nt_tZ hw) q5 dX9_copy_22 ?_
      obtain ⟨ht, hf⟩ := nt_R_if h
      refine nt_if_eq X 35 dX9_copy_23 (by decide) (fun q6 => ?_) (fun q6 => ?_)
      · have h := ht q6
        refine nt_bipush X dX9_copy_35 nt_cb_m11 ?_
        have h := nt_R_some h
        exact nt_iret X dX9_copy_37 h
      · have h := hf q6
        refine nt_aload_n X dX9_copy_26 rfl 0 rfl ?_
        refine nt_get X 0 inX9 (nt_lM hw (Nat.le_of_ble_eq_true rfl)) (nt_m0 hw) rfl (j := 47) (by decide) wd_669 (v := .ref (nt_a w 21)) rfl dX9_copy_27 ?_
        refine nt_iload_n X dX9_copy_30 rfl 3 rfl ?_
        obtain ⟨q7, h⟩ := nt_R_gd h
        refine nt_zald X 21 1 (nt_lM hw (Nat.le_of_ble_eq_true rfl)) (nt_m21 hw) (nt_tZ hw) q7 dX9_copy_31 ?_
        obtain ⟨ht, hf⟩ := nt_R_if h
        refine nt_if_ne X 38 dX9_copy_32 (by decide) (fun q8 => ?_) (fun q8 => ?_)
        · have h := hf q8
          refine nt_aload_n X dX9_copy_38 rfl 0 rfl ?_
          refine nt_get X 0 inX9 (nt_lM hw (Nat.le_of_ble_eq_true rfl)) (nt_m0 hw) rfl (j := 48) (by decide) wd_670 (v := .ref (nt_a w 22)) rfl dX9_copy_39 ?_
          refine nt_iload_n X dX9_copy_42 rfl 1 rfl ?_
          obtain ⟨q9, h⟩ := nt_R_gd h
          refine nt_iald X 22 0 (nt_lM hw (Nat.le_of_ble_eq_true rfl)) (nt_m22 hw) (nt_tM hw) q9 dX9_copy_43 ?_
          refine nt_aload_n X dX9_copy_44 rfl 0 rfl ?_
          refine nt_get X 0 inX9 (nt_lM hw (Nat.le_of_ble_eq_true rfl)) (nt_m0 hw) rfl (j := 48) (by decide) wd_670 (v := .ref (nt_a w 22)) rfl dX9_copy_45 ?_
          refine nt_iload_n X dX9_copy_48 rfl 3 rfl ?_
          obtain ⟨q10, h⟩ := nt_R_gd h
          refine nt_iald X 22 0 (nt_lM hw (Nat.le_of_ble_eq_true rfl)) (nt_m22 hw) (nt_tM hw) q10 dX9_copy_49 ?_
          obtain ⟨ht, hf⟩ := nt_R_if h
          refine nt_icmp_eq X 56 dX9_copy_50 (by decide) (fun q11 => ?_) (fun q11 => ?_)
          · have h := ht q11
            refine nt_iload X dX9_copy_56 5 rfl ?_
            obtain ⟨ht, hf⟩ := nt_R_if h
            refine nt_if_lt X 97 dX9_copy_58 (by decide) (fun q12 => ?_) (fun q12 => ?_)
            · have h := ht q12
              refine nt_bipush X dX9_copy_97 nt_cb_m12 ?_
              have h := nt_R_some h
              exact nt_iret X dX9_copy_99 h
            · have h := hf q12
              refine nt_iload_n X dX9_copy_61 rfl 2 rfl ?_
              obtain ⟨ht, hf⟩ := nt_R_if h
              refine nt_if_lt X 97 dX9_copy_62 (by decide) (fun q13 => ?_) (fun q13 => ?_)
              · have h := ht q13
                refine nt_bipush X dX9_copy_97 nt_cb_m12 ?_
                have h := nt_R_some h
                exact nt_iret X dX9_copy_99 h
              · have h := hf q13
                refine nt_iload X dX9_copy_65 4 rfl ?_
                obtain ⟨ht, hf⟩ := nt_R_if h
                refine nt_if_lt X 97 dX9_copy_67 (by decide) (fun q14 => ?_) (fun q14 => ?_)
                · have h := ht q14
                  refine nt_bipush X dX9_copy_97 nt_cb_m12 ?_
                  have h := nt_R_some h
                  exact nt_iret X dX9_copy_99 h
                · have h := hf q14
                  refine nt_iload_n X dX9_copy_70 rfl 2 rfl ?_
                  refine nt_aload_n X dX9_copy_71 rfl 0 rfl ?_
                  refine nt_get X 0 inX9 (nt_lM hw (Nat.le_of_ble_eq_true rfl)) (nt_m0 hw) rfl (j := 49) (by decide) wd_671 (v := .ref (nt_a w 23)) rfl dX9_copy_72 ?_
                  refine nt_iload_n X dX9_copy_75 rfl 1 rfl ?_
                  obtain ⟨q15, h⟩ := nt_R_gd h
                  refine nt_iald X 23 0 (nt_lM hw (Nat.le_of_ble_eq_true rfl)) (nt_m23 hw) (nt_tM hw) q15 dX9_copy_76 ?_
                  refine nt_iload X dX9_copy_77 5 rfl ?_
                  refine nt_isub X dX9_copy_79 ?_
                  obtain ⟨ht, hf⟩ := nt_R_if h
                  refine nt_icmp_gt X 97 dX9_copy_80 (by decide) (fun q16 => ?_) (fun q16 => ?_)
                  · have h := ht q16
                    refine nt_bipush X dX9_copy_97 nt_cb_m12 ?_
                    have h := nt_R_some h
                    exact nt_iret X dX9_copy_99 h
                  · have h := hf q16
                    refine nt_iload X dX9_copy_83 4 rfl ?_
                    refine nt_aload_n X dX9_copy_85 rfl 0 rfl ?_
                    refine nt_get X 0 inX9 (nt_lM hw (Nat.le_of_ble_eq_true rfl)) (nt_m0 hw) rfl (j := 49) (by decide) wd_671 (v := .ref (nt_a w 23)) rfl dX9_copy_86 ?_
                    refine nt_iload_n X dX9_copy_89 rfl 3 rfl ?_
                    obtain ⟨q17, h⟩ := nt_R_gd h
                    refine nt_iald X 23 0 (nt_lM hw (Nat.le_of_ble_eq_true rfl)) (nt_m23 hw) (nt_tM hw) q17 dX9_copy_90 ?_
                    refine nt_iload X dX9_copy_91 5 rfl ?_
                    refine nt_isub X dX9_copy_93 ?_
                    obtain ⟨ht, hf⟩ := nt_R_if h
                    refine nt_icmp_le X 100 dX9_copy_94 (by decide) (fun q18 => ?_) (fun q18 => ?_)
                    · have h := ht q18
                      refine nt_iload_n X dX9_copy_100 rfl 1 rfl ?_
                      refine nt_iload_n X dX9_copy_101 rfl 3 rfl ?_
                      obtain ⟨ht, hf⟩ := nt_R_if h
                      refine nt_icmp_ne X 115 dX9_copy_102 (by decide) (fun q19 => ?_) (fun q19 => ?_)
                      · have h := hf q19
                        exact tjMo_copy_115 hw X x1 x2 x3 x4 x5 g h
                      · have h := ht q19
                        refine nt_iload_n X dX9_copy_105 rfl 2 rfl ?_
                        refine nt_iload X dX9_copy_106 4 rfl ?_
                        obtain ⟨ht, hf⟩ := nt_R_if h
                        refine nt_icmp_ge X 115 dX9_copy_108 (by decide) (fun q28 => ?_) (fun q28 => ?_)
                        · have h := ht q28
                          exact tjMo_copy_115 hw X x1 x2 x3 x4 x5 g h
                        · have h := hf q28
                          refine nt_iconst X dX9_copy_111 nt_ci_1 ?_
                          refine nt_goto X 116 dX9_copy_112 (by decide) ?_
                          exact tjMo_copy_116 hw X x1 x2 x3 x4 x5 (1 : Int32) g h
                    · have h := hf q18
                      refine nt_bipush X dX9_copy_97 nt_cb_m12 ?_
                      have h := nt_R_some h
                      exact nt_iret X dX9_copy_99 h
          · have h := hf q11
            refine nt_bipush X dX9_copy_53 nt_cb_m13 ?_
            have h := nt_R_some h
            exact nt_iret X dX9_copy_55 h
        · have h := ht q8
          refine nt_bipush X dX9_copy_35 nt_cb_m11 ?_
          have h := nt_R_some h
          exact nt_iret X dX9_copy_37 h
    · have h := ht q4
      refine nt_bipush X dX9_copy_14 nt_cb_m2 ?_
      have h := nt_R_some h
      exact nt_iret X dX9_copy_16 h
def bMo_people_75 (x1 : Int32) (x3 : Int32) (x4 : Int32) (x5 : Int32) (x6 : Int32) (g : nt_T) : Option ((Int32 × Int32 × nt_T) ⊕ ((nt_T) ⊕ (Int32 × nt_T))) :=
  (if x4 ≤ x6 then
    (some (.inr (.inr (x5, g))))
  else
    ((if x3 < 0 then
    (some (.inr (.inl g)))
  else
    (nt_gd (nt_in x1 4) <| (if x3 ≤ (((g 23 (Int32.toNatClampNeg x1)) - ((2 : Int32) * x6)) - (2 : Int32)) then
    (nt_lt ((((40 : Int32) * x1) + x3) + ((2 : Int32) * x6)) fun v15 => nt_gd (nt_in v15 160) <| nt_gd (nt_in (v15 + (1 : Int32)) 160) <| nt_b2 (fMo_person (g 24 (Int32.toNatClampNeg v15)) (g 24 (Int32.toNatClampNeg (v15 + (1 : Int32)))) g) fun r18 g19 => (if r18 < 0 then
    (nt_lt (x5 + (0 : Int32)) fun v21 => nt_lt (x6 + (1 : Int32)) fun v22 => some (.inl (v21, v22, g19)))
  else
    (nt_lt (x5 + (1 : Int32)) fun v23 => nt_lt (x6 + (1 : Int32)) fun v24 => some (.inl (v23, v24, g19)))))
  else
    (some (.inr (.inl g))))))))
set_option maxRecDepth 100000 in
set_option maxHeartbeats 4000000 in
theorem tbMo_people_75 {p : Program} {l : Launch} {e : Env} {s : State} {m : MethodId} {args : Array Value} {below : List Frame} {meth : Method} {c : Code} {w : nt_w} {A : Nat → Prop} (hw : nt_isM w) {Q : State → Prop} (X : nt_X cX9_people 8 RX9 (some .int) w A p s m args meth c) (x1 : Int32) (x3 : Int32) (x4 : Int32)  {Qx : ((nt_T) ⊕ (Int32 × nt_T)) → Prop} (hE0 : ∀ (gy : nt_T), Qx (.inl gy) → nt_G p l e (nt_rm 5) s m args below meth c w A 0 0 Q 8 103 [(0, .ref (nt_a w 0)), (1, .int x1), (3, .int x3), (4, .int x4)] [] gy) (hE1 : ∀ (y5 : Int32) (gy : nt_T), Qx (.inr (y5, gy)) → nt_G p l e (nt_rm 5) s m args below meth c w A 0 0 Q 8 158 [(0, .ref (nt_a w 0)), (1, .int x1), (3, .int x3), (4, .int x4), (5, .int y5)] [] gy) : ∀ (n : Nat) (x5 : Int32) (x6 : Int32) (g : nt_T), nt_R (nt_it (fun z => bMo_people_75 x1 x3 x4 z.1 z.2.1 z.2.2) n (x5, x6, g)) Qx → nt_G p l e (nt_rm 5) s m args below meth c w A 0 0 Q 8 75 [(0, .ref (nt_a w 0)), (1, .int x1), (3, .int x3), (4, .int x4), (5, .int x5), (6, .int x6)] [] g := by
  intro n
  induction n with
  | zero =>
    intro x5 x6 g h
    exact nt_R_none h
  | succ n ih =>
    intro x5 x6 g h
    have h : nt_R (bMo_people_75 x1 x3 x4 x5 x6 g) (nt_Qz (fun z => bMo_people_75 x1 x3 x4 z.1 z.2.1 z.2.2) n Qx) := nt_R_it h
    have hI : ∀ (y5 : Int32) (y6 : Int32) (gy : nt_T), nt_Qz (fun z => bMo_people_75 x1 x3 x4 z.1 z.2.1 z.2.2) n Qx (.inl (y5, y6, gy)) → nt_G p l e (nt_rm 5) s m args below meth c w A 0 0 Q 8 75 [(0, .ref (nt_a w 0)), (1, .int x1), (3, .int x3), (4, .int x4), (5, .int y5), (6, .int y6)] [] gy := fun y5 y6 gy q => ih y5 y6 gy q
    have hE0 : ∀ (gy : nt_T), nt_Qz (fun z => bMo_people_75 x1 x3 x4 z.1 z.2.1 z.2.2) n Qx (.inr (.inl gy)) → nt_G p l e (nt_rm 5) s m args below meth c w A 0 0 Q 8 103 [(0, .ref (nt_a w 0)), (1, .int x1), (3, .int x3), (4, .int x4)] [] gy := hE0
    have hE1 : ∀ (y5 : Int32) (gy : nt_T), nt_Qz (fun z => bMo_people_75 x1 x3 x4 z.1 z.2.1 z.2.2) n Qx (.inr (.inr (y5, gy))) → nt_G p l e (nt_rm 5) s m args below meth c w A 0 0 Q 8 158 [(0, .ref (nt_a w 0)), (1, .int x1), (3, .int x3), (4, .int x4), (5, .int y5)] [] gy := hE1
    generalize nt_Qz (fun z => bMo_people_75 x1 x3 x4 z.1 z.2.1 z.2.2) n Qx = Qz at h hI hE0 hE1
    unfold bMo_people_75 at h
    refine nt_iload X dX9_people_75 5 rfl ?_
    refine nt_iload X dX9_people_77 3 rfl ?_
    obtain ⟨ht, hf⟩ := nt_R_if h
    refine nt_icmp_ge X 158 dX9_people_79 (by decide) (fun q11 => ?_) (fun q11 => ?_)
    · have h := ht q11
      refine nt_sub [0, 1, 2, 3, 4] rfl ?_
      have h := nt_R_some h
      exact hE1 x5 g h
    · have h := hf q11
      refine nt_iload_n X dX9_people_82 rfl 2 rfl ?_
      obtain ⟨ht, hf⟩ := nt_R_if h
      refine nt_if_lt X 103 dX9_people_83 (by decide) (fun q12 => ?_) (fun q12 => ?_)
      · have h := ht q12
        refine nt_sub [0, 1, 2, 3] rfl ?_
        have h := nt_R_some h
        exact hE0 g h
      · have h := hf q12
        refine nt_iload_n X dX9_people_86 rfl 2 rfl ?_
        refine nt_aload_n X dX9_people_87 rfl 0 rfl ?_
        refine nt_get X 0 inX9 (nt_lM hw (Nat.le_of_ble_eq_true rfl)) (nt_m0 hw) rfl (j := 49) (by decide) wd_671 (v := .ref (nt_a w 23)) rfl dX9_people_88 ?_
        refine nt_iload_n X dX9_people_91 rfl 1 rfl ?_
        obtain ⟨q13, h⟩ := nt_R_gd h
        refine nt_iald X 23 0 (nt_lM hw (Nat.le_of_ble_eq_true rfl)) (nt_m23 hw) (nt_tM hw) q13 dX9_people_92 ?_
        refine nt_iconst X dX9_people_93 nt_ci_2 ?_
        refine nt_iload X dX9_people_94 5 rfl ?_
        refine nt_imul X dX9_people_96 ?_
        refine nt_isub X dX9_people_97 ?_
        refine nt_iconst X dX9_people_98 nt_ci_2 ?_
        refine nt_isub X dX9_people_99 ?_
        obtain ⟨ht, hf⟩ := nt_R_if h
        refine nt_icmp_le X 106 dX9_people_100 (by decide) (fun q14 => ?_) (fun q14 => ?_)
        · have h := ht q14
          refine nt_bipush X dX9_people_106 nt_cb_40 ?_
          refine nt_iload_n X dX9_people_108 rfl 1 rfl ?_
          refine nt_imul X dX9_people_109 ?_
          refine nt_iload_n X dX9_people_110 rfl 2 rfl ?_
          refine nt_iadd X dX9_people_111 ?_
          refine nt_iconst X dX9_people_112 nt_ci_2 ?_
          refine nt_iload X dX9_people_113 5 rfl ?_
          refine nt_imul X dX9_people_115 ?_
          refine nt_iadd X dX9_people_116 ?_
          obtain ⟨v15, ev15, h⟩ := nt_R_lt h
          refine nt_topi ev15 ?_
          refine nt_istore X [(7, .int v15), (0, .ref (nt_a w 0)), (1, .int x1), (3, .int x3), (4, .int x4), (5, .int x5), (6, .int x6)] dX9_people_117 (by decide) rfl ?_
          refine nt_iload X dX9_people_119 5 rfl ?_
          refine nt_aload_n X dX9_people_121 rfl 1 rfl ?_
          refine nt_aload_n X dX9_people_122 rfl 1 rfl ?_
          refine nt_get X 0 inX9 (nt_lM hw (Nat.le_of_ble_eq_true rfl)) (nt_m0 hw) rfl (j := 50) (by decide) wd_672 (v := .ref (nt_a w 24)) rfl dX9_people_123 ?_
          refine nt_iload X dX9_people_126 0 rfl ?_
          obtain ⟨q16, h⟩ := nt_R_gd h
          refine nt_iald X 24 0 (nt_lM hw (Nat.le_of_ble_eq_true rfl)) (nt_m24 hw) (nt_tM hw) q16 dX9_people_128 ?_
          refine nt_aload_n X dX9_people_129 rfl 1 rfl ?_
          refine nt_get X 0 inX9 (nt_lM hw (Nat.le_of_ble_eq_true rfl)) (nt_m0 hw) rfl (j := 50) (by decide) wd_672 (v := .ref (nt_a w 24)) rfl dX9_people_130 ?_
          refine nt_iload X dX9_people_133 0 rfl ?_
          refine nt_iconst X dX9_people_135 nt_ci_1 ?_
          refine nt_iadd X dX9_people_136 ?_
          obtain ⟨q17, h⟩ := nt_R_gd h
          refine nt_iald X 24 0 (nt_lM hw (Nat.le_of_ble_eq_true rfl)) (nt_m24 hw) (nt_tM hw) q17 dX9_people_137 ?_
          obtain ⟨r18, g19, er18, h⟩ := nt_R_b2 h
          refine nt_cVi X (As := [.int (g 24 (Int32.toNatClampNeg v15)), .int (g 24 (Int32.toNatClampNeg (v15 + (1 : Int32))))]) 0 (nt_lM hw (Nat.le_of_ble_eq_true rfl)) (nt_m0 hw) rfl (cMo_person hw er18) wd_747 wd_999 wd_745 wd_746 wd_16 rfl hd_X9_person ⟨Nat.le_of_ble_eq_true rfl, Nat.le_of_ble_eq_true rfl⟩ ⟨Nat.le_refl 0, Nat.le_refl 0⟩ (Nat.le_of_ble_eq_true rfl) rfl dX9_people_138 ?_
          obtain ⟨ht, hf⟩ := nt_R_if h
          refine nt_if_lt X 148 dX9_people_141 (by decide) (fun q20 => ?_) (fun q20 => ?_)
          · have h := ht q20
            refine nt_iconst X dX9_people_148 nt_ci_0 ?_
            refine nt_iadd X dX9_people_149 ?_
            obtain ⟨v21, ev21, h⟩ := nt_R_lt h
            refine nt_topi ev21 ?_
            refine nt_istore X [(5, .int v21), (7, .int v15), (0, .ref (nt_a w 0)), (1, .int x1), (3, .int x3), (4, .int x4), (6, .int x6)] dX9_people_150 (by decide) rfl ?_
            obtain ⟨v22, ev22, h⟩ := nt_R_lt h
            refine nt_iinc X v22 [(6, .int v22), (5, .int v21), (7, .int v15), (0, .ref (nt_a w 0)), (1, .int x1), (3, .int x3), (4, .int x4)] dX9_people_152 6 rfl (by rw [nt_ci_1]; exact ev22) (by decide) rfl ?_
            refine nt_goto X 75 dX9_people_155 (by decide) ?_
            refine nt_sub [3, 4, 5, 6, 1, 0] rfl ?_
            have h := nt_R_some h
            exact hI v21 v22 g19 h
          · have h := hf q20
            refine nt_iconst X dX9_people_144 nt_ci_1 ?_
            refine nt_goto X 149 dX9_people_145 (by decide) ?_
            refine nt_iadd X dX9_people_149 ?_
            obtain ⟨v23, ev23, h⟩ := nt_R_lt h
            refine nt_topi ev23 ?_
            refine nt_istore X [(5, .int v23), (7, .int v15), (0, .ref (nt_a w 0)), (1, .int x1), (3, .int x3), (4, .int x4), (6, .int x6)] dX9_people_150 (by decide) rfl ?_
            obtain ⟨v24, ev24, h⟩ := nt_R_lt h
            refine nt_iinc X v24 [(6, .int v24), (5, .int v23), (7, .int v15), (0, .ref (nt_a w 0)), (1, .int x1), (3, .int x3), (4, .int x4)] dX9_people_152 6 rfl (by rw [nt_ci_1]; exact ev24) (by decide) rfl ?_
            refine nt_goto X 75 dX9_people_155 (by decide) ?_
            refine nt_sub [3, 4, 5, 6, 1, 0] rfl ?_
            have h := nt_R_some h
            exact hI v23 v24 g19 h
        · have h := hf q14
          refine nt_sub [0, 1, 2, 3] rfl ?_
          have h := nt_R_some h
          exact hE0 g h
def jMo_people_57 (x1 : Int32) (x3 : Int32) (x4 : Int32) (g : nt_T) : Option (Int32 × nt_T) :=
  nt_gd (nt_in x1 4) <| (if (g 21 (Int32.toNatClampNeg x1)) = 0 then
    (some ((-11 : Int32), g))
  else
    ((nt_b1 (nt_it (fun z => bMo_people_75 x1 x3 x4 z.1 z.2.1 z.2.2) nt_fu ((0 : Int32), (0 : Int32), g)) fun z28 => match z28 with
  | (.inl g25) => some ((-12 : Int32), g25)
  | .inr (v26, g27) => some (v26, g27))))
set_option maxRecDepth 100000 in
set_option maxHeartbeats 4000000 in
theorem tjMo_people_57 {p : Program} {l : Launch} {e : Env} {s : State} {m : MethodId} {args : Array Value} {below : List Frame} {meth : Method} {c : Code} {w : nt_w} {A : Nat → Prop} (hw : nt_isM w) {r : Int32} {g2 : nt_T}  (X : nt_X cX9_people 8 RX9 (some .int) w A p s m args meth c) (x1 : Int32) (x3 : Int32) (x4 : Int32) (g : nt_T) (h : nt_R (jMo_people_57 x1 x3 x4 g) (fun z => z = (r, g2))) : nt_G p l e (nt_rm 5) s m args below meth c w A 0 0 (nt_Qi w A below args s r g2) 8 57 [(0, .ref (nt_a w 0)), (1, .int x1), (3, .int x3), (4, .int x4)] [] g := by
  unfold jMo_people_57 at h
  refine nt_aload_n X dX9_people_57 rfl 0 rfl ?_
  refine nt_get X 0 inX9 (nt_lM hw (Nat.le_of_ble_eq_true rfl)) (nt_m0 hw) rfl (j := 47) (by decide) wd_669 (v := .ref (nt_a w 21)) rfl dX9_people_58 ?_
  refine nt_iload_n X dX9_people_61 rfl 1 rfl ?_
  obtain ⟨q9, h⟩ := nt_R_gd h
  refine nt_zald X 21 1 (nt_lM hw (Nat.le_of_ble_eq_true rfl)) (nt_m21 hw) (nt_tZ hw) q9 dX9_people_62 ?_
  obtain ⟨ht, hf⟩ := nt_R_if h
  refine nt_if_ne X 69 dX9_people_63 (by decide) (fun q10 => ?_) (fun q10 => ?_)
  · have h := hf q10
    refine nt_iconst X dX9_people_69 nt_ci_0 ?_
    refine nt_istore X [(5, .int (0 : Int32)), (0, .ref (nt_a w 0)), (1, .int x1), (3, .int x3), (4, .int x4)] dX9_people_70 (by decide) rfl ?_
    refine nt_iconst X dX9_people_72 nt_ci_0 ?_
    refine nt_istore X [(6, .int (0 : Int32)), (5, .int (0 : Int32)), (0, .ref (nt_a w 0)), (1, .int x1), (3, .int x3), (4, .int x4)] dX9_people_73 (by decide) rfl ?_
    obtain ⟨z28, hz28, h⟩ := nt_R_b1 h
    refine nt_sub [2, 3, 4, 5, 1, 0] rfl ?_
    refine tbMo_people_75 hw X x1 x3 x4 (Qx := fun z => z = z28) (fun g25 hq => ?_) (fun v26 g27 hq => ?_) nt_fu (0 : Int32) (0 : Int32) g ⟨_, hz28, rfl⟩
    · subst hq
      refine nt_bipush X dX9_people_103 nt_cb_m12 ?_
      have h := nt_R_some h
      exact nt_iret X dX9_people_105 h
    · subst hq
      refine nt_iload X dX9_people_158 4 rfl ?_
      have h := nt_R_some h
      exact nt_iret X dX9_people_160 h
  · have h := ht q10
    refine nt_bipush X dX9_people_66 nt_cb_m11 ?_
    have h := nt_R_some h
    exact nt_iret X dX9_people_68 h
def fMo_people (x1 : Int32) (x2 : Int32) (x3 : Int32) (x4 : Int32) (g : nt_T) : Option (Int32 × nt_T) :=
  nt_b1 (fMo_isSheet x1 g) fun r1 => (if r1 = 0 then
    (some ((-2 : Int32), g))
  else
    (nt_b1 (fMo_in (Int32.toInt64 x2) (0 : Int64) (2 : Int64) g) fun r3 => (if r3 = 0 then
    (some ((-2 : Int32), g))
  else
    (nt_b1 (fMo_in (Int32.toInt64 x4) (0 : Int64) (8 : Int64) g) fun r5 => (if r5 = 0 then
    (some ((-2 : Int32), g))
  else
    (nt_gd (nt_in x1 4) <| (if (g 21 (Int32.toNatClampNeg x1)) = 0 then
    (jMo_people_57 x1 x3 x4 g)
  else
    (nt_gd (nt_in x1 4) <| (if (g 22 (Int32.toNatClampNeg x1)) = x2 then
    (jMo_people_57 x1 x3 x4 g)
  else
    (some ((-13 : Int32), g)))))))))))
set_option maxRecDepth 100000 in
set_option maxHeartbeats 4000000 in
theorem cMo_people {l : Launch} {w : nt_w} (hw : nt_isM w) {x1 : Int32} {x2 : Int32} {x3 : Int32} {x4 : Int32} {g : nt_T} {r : Int32} {g2 : nt_T} (hf : fMo_people x1 x2 x3 x4 g = some (r, g2)) : nt_Mi l w yX9_people cX9_people 8 (some .int) 5 [.ref (nt_a w 0), .int x1, .int x2, .int x3, .int x4] g r g2 := by
  refine nt_Mi_of (by decide) (Nat.le_of_ble_eq_true rfl) (fun p e s m args below meth c A X => ?_)
  have X : nt_X cX9_people 8 RX9 (some .int) w A p s m args meth c := X
  have h : nt_R (fMo_people x1 x2 x3 x4 g) (fun z => z = (r, g2)) := ⟨_, hf, rfl⟩
  unfold fMo_people at h
  show nt_G p l e (nt_rm 5) s m args below meth c w A 0 0 (nt_Qi w A below args s r g2) 8 0 [(0, .ref (nt_a w 0)), (1, .int x1), (2, .int x2), (3, .int x3), (4, .int x4)] [] g
  refine nt_iload_n X dX9_people_0 rfl 1 rfl ?_
  obtain ⟨r1, er1, h⟩ := nt_R_b1 h
  refine nt_cSi X (As := [.int x1]) (cMo_isSheet hw er1) wd_961 wd_959 wd_960 wd_16 hd_X9_isSheet ⟨Nat.le_of_ble_eq_true rfl, Nat.le_of_ble_eq_true rfl⟩ ⟨Nat.le_refl 0, Nat.le_refl 0⟩ (Nat.le_of_ble_eq_true rfl) rfl dX9_people_1 ?_
  obtain ⟨ht, hf⟩ := nt_R_if h
  refine nt_if_eq X 32 dX9_people_4 (by decide) (fun q2 => ?_) (fun q2 => ?_)
  · have h := ht q2
    refine nt_bipush X dX9_people_32 nt_cb_m2 ?_
    have h := nt_R_some h
    exact nt_iret X dX9_people_34 h
  · have h := hf q2
    refine nt_iload_n X dX9_people_7 rfl 2 rfl ?_
    refine nt_i2l X dX9_people_8 rfl ?_
    refine nt_lconst X dX9_people_9 nt_cl_0 ?_
    refine nt_ldc2 X wd_754 dX9_people_10 ?_
    obtain ⟨r3, er3, h⟩ := nt_R_b1 h
    refine nt_cSi X (As := [.long (Int32.toInt64 x2), .long (0 : Int64), .long (2 : Int64)]) (cMo_in hw er3) wd_732 wd_730 wd_731 wd_16 hd_X9_in ⟨Nat.le_of_ble_eq_true rfl, Nat.le_of_ble_eq_true rfl⟩ ⟨Nat.le_refl 0, Nat.le_refl 0⟩ (Nat.le_of_ble_eq_true rfl) rfl dX9_people_13 ?_
    obtain ⟨ht, hf⟩ := nt_R_if h
    refine nt_if_eq X 32 dX9_people_16 (by decide) (fun q4 => ?_) (fun q4 => ?_)
    · have h := ht q4
      refine nt_bipush X dX9_people_32 nt_cb_m2 ?_
      have h := nt_R_some h
      exact nt_iret X dX9_people_34 h
    · have h := hf q4
      refine nt_iload X dX9_people_19 4 rfl ?_
      refine nt_i2l X dX9_people_21 rfl ?_
      refine nt_lconst X dX9_people_22 nt_cl_0 ?_
      refine nt_ldc2 X wd_998 dX9_people_23 ?_
      obtain ⟨r5, er5, h⟩ := nt_R_b1 h
      refine nt_cSi X (As := [.long (Int32.toInt64 x4), .long (0 : Int64), .long (8 : Int64)]) (cMo_in hw er5) wd_732 wd_730 wd_731 wd_16 hd_X9_in ⟨Nat.le_of_ble_eq_true rfl, Nat.le_of_ble_eq_true rfl⟩ ⟨Nat.le_refl 0, Nat.le_refl 0⟩ (Nat.le_of_ble_eq_true rfl) rfl dX9_people_26 ?_
      obtain ⟨ht, hf⟩ := nt_R_if h
      refine nt_if_ne X 35 dX9_people_29 (by decide) (fun q6 => ?_) (fun q6 => ?_)
      · have h := hf q6
        refine nt_aload_n X dX9_people_35 rfl 0 rfl ?_
        refine nt_get X 0 inX9 (nt_lM hw (Nat.le_of_ble_eq_true rfl)) (nt_m0 hw) rfl (j := 47) (by decide) wd_669 (v := .ref (nt_a w 21)) rfl dX9_people_36 ?_
        refine nt_iload_n X dX9_people_39 rfl 1 rfl ?_
        obtain ⟨q7, h⟩ := nt_R_gd h
        refine nt_zald X 21 1 (nt_lM hw (Nat.le_of_ble_eq_true rfl)) (nt_m21 hw) (nt_tZ hw) q7 dX9_people_40 ?_
        obtain ⟨ht, hf⟩ := nt_R_if h
        refine nt_if_eq X 57 dX9_people_41 (by decide) (fun q8 => ?_) (fun q8 => ?_)
        · have h := ht q8
          refine nt_sub [0, 1, 3, 4] rfl ?_
          exact tjMo_people_57 hw X x1 x3 x4 g h
        · have h := hf q8
          refine nt_aload_n X dX9_people_44 rfl 0 rfl ?_
          refine nt_get X 0 inX9 (nt_lM hw (Nat.le_of_ble_eq_true rfl)) (nt_m0 hw) rfl (j := 48) (by decide) wd_670 (v := .ref (nt_a w 22)) rfl dX9_people_45 ?_
          refine nt_iload_n X dX9_people_48 rfl 1 rfl ?_
          obtain ⟨q29, h⟩ := nt_R_gd h
          refine nt_iald X 22 0 (nt_lM hw (Nat.le_of_ble_eq_true rfl)) (nt_m22 hw) (nt_tM hw) q29 dX9_people_49 ?_
          refine nt_iload_n X dX9_people_50 rfl 2 rfl ?_
          obtain ⟨ht, hf⟩ := nt_R_if h
          refine nt_icmp_eq X 57 dX9_people_51 (by decide) (fun q30 => ?_) (fun q30 => ?_)
          · have h := ht q30
            refine nt_sub [0, 1, 3, 4] rfl ?_
            exact tjMo_people_57 hw X x1 x3 x4 g h
          · have h := hf q30
            refine nt_bipush X dX9_people_54 nt_cb_m13 ?_
            have h := nt_R_some h
            exact nt_iret X dX9_people_56 h
      · have h := ht q6
        refine nt_bipush X dX9_people_32 nt_cb_m2 ?_
        have h := nt_R_some h
        exact nt_iret X dX9_people_34 h
def fMo_over (x0 : Int32) (g : nt_T) : Option (Int32) :=
  (if x0 = 0 then
    (some (-1 : Int32))
  else
    ((if x0 = (1 : Int32) then
    (some (0 : Int32))
  else
    ((if x0 = (2 : Int32) then
    (some (0 : Int32))
  else
    ((if x0 = (4 : Int32) then
    (some (2 : Int32))
  else
    (some (1 : Int32)))))))))
set_option maxRecDepth 100000 in
set_option maxHeartbeats 4000000 in
theorem cMo_over {l : Launch} {w : nt_w} (hw : nt_isM w) {x0 : Int32} {g : nt_T} {r : Int32} (hf : fMo_over x0 g = some r) : nt_Mi l w yX9_over cX9_over 1 (some .int) 1 [.int x0] g r g := by
  refine nt_Mi_of (by decide) (Nat.le_of_ble_eq_true rfl) (fun p e s m args below meth c A X => ?_)
  have X : nt_X cX9_over 1 RX9 (some .int) w A p s m args meth c := X
  have hg : g = g := rfl
  have h : nt_R (fMo_over x0 g) (fun z => z = r) := ⟨_, hf, rfl⟩
  unfold fMo_over at h
  show nt_G p l e (nt_rm 1) s m args below meth c w A 0 0 (nt_Qi w A below args s r g) 1 0 [(0, .int x0)] [] g
  refine nt_iload_n X dX9_over_0 rfl 0 rfl ?_
  obtain ⟨ht, hf⟩ := nt_R_if h
  refine nt_if_ne X 8 dX9_over_1 (by decide) (fun q1 => ?_) (fun q1 => ?_)
  · have h := hf q1
    refine nt_iload_n X dX9_over_8 rfl 0 rfl ?_
    refine nt_iconst X dX9_over_9 nt_ci_1 ?_
    obtain ⟨ht, hf⟩ := nt_R_if h
    refine nt_icmp_eq X 18 dX9_over_10 (by decide) (fun q2 => ?_) (fun q2 => ?_)
    · have h := ht q2
      refine nt_iconst X dX9_over_18 nt_ci_0 ?_
      refine nt_goto X 32 dX9_over_19 (by decide) ?_
      have h := nt_R_some h
      exact nt_iret X dX9_over_32 (nt_pe h hg)
    · have h := hf q2
      refine nt_iload_n X dX9_over_13 rfl 0 rfl ?_
      refine nt_iconst X dX9_over_14 nt_ci_2 ?_
      obtain ⟨ht, hf⟩ := nt_R_if h
      refine nt_icmp_ne X 22 dX9_over_15 (by decide) (fun q3 => ?_) (fun q3 => ?_)
      · have h := hf q3
        refine nt_iload_n X dX9_over_22 rfl 0 rfl ?_
        refine nt_iconst X dX9_over_23 nt_ci_4 ?_
        obtain ⟨ht, hf⟩ := nt_R_if h
        refine nt_icmp_ne X 31 dX9_over_24 (by decide) (fun q4 => ?_) (fun q4 => ?_)
        · have h := hf q4
          refine nt_iconst X dX9_over_31 nt_ci_1 ?_
          have h := nt_R_some h
          exact nt_iret X dX9_over_32 (nt_pe h hg)
        · have h := ht q4
          refine nt_iconst X dX9_over_27 nt_ci_2 ?_
          refine nt_goto X 32 dX9_over_28 (by decide) ?_
          have h := nt_R_some h
          exact nt_iret X dX9_over_32 (nt_pe h hg)
      · have h := ht q3
        refine nt_iconst X dX9_over_18 nt_ci_0 ?_
        refine nt_goto X 32 dX9_over_19 (by decide) ?_
        have h := nt_R_some h
        exact nt_iret X dX9_over_32 (nt_pe h hg)
  · have h := ht q1
    refine nt_iconst X dX9_over_4 nt_ci_m1 ?_
    refine nt_goto X 32 dX9_over_5 (by decide) ?_
    have h := nt_R_some h
    exact nt_iret X dX9_over_32 (nt_pe h hg)
def bMo_taken_33 (x1 : Int32) (x2 : Int32) (g : nt_T) (x3 : Int32) : Option ((Int32) ⊕ ((Int32))) :=
  (if x3 = (-1 : Int32) then
    (some (.inr x3))
  else
    ((if x3 = x2 then
    (some (.inr x3))
  else
    (nt_b1 (fMo_over x3 g) fun r9 => some (.inl r9)))))
set_option maxRecDepth 100000 in
set_option maxHeartbeats 4000000 in
theorem tbMo_taken_33 {p : Program} {l : Launch} {e : Env} {s : State} {m : MethodId} {args : Array Value} {below : List Frame} {meth : Method} {c : Code} {w : nt_w} {A : Nat → Prop} (hw : nt_isM w) {Q : State → Prop} (X : nt_X cX9_taken 4 RX9 (some .int) w A p s m args meth c) (x1 : Int32) (x2 : Int32) (g : nt_T)  {Qx : ((Int32)) → Prop} (hE0 : ∀ (y3 : Int32), Qx y3 → nt_G p l e (nt_rm 5) s m args below meth c w A 0 0 Q 4 51 [(0, .ref (nt_a w 0)), (1, .int x1), (2, .int x2), (3, .int y3)] [] g) : ∀ (n : Nat) (x3 : Int32), nt_R (nt_it (fun z => bMo_taken_33 x1 x2 g z) n x3) Qx → nt_G p l e (nt_rm 5) s m args below meth c w A 0 0 Q 4 33 [(0, .ref (nt_a w 0)), (1, .int x1), (2, .int x2), (3, .int x3)] [] g := by
  intro n
  induction n with
  | zero =>
    intro x3 h
    exact nt_R_none h
  | succ n ih =>
    intro x3 h
    have h : nt_R (bMo_taken_33 x1 x2 g x3) (nt_Qz (fun z => bMo_taken_33 x1 x2 g z) n Qx) := nt_R_it h
    have hI : ∀ (y3 : Int32), nt_Qz (fun z => bMo_taken_33 x1 x2 g z) n Qx (.inl y3) → nt_G p l e (nt_rm 5) s m args below meth c w A 0 0 Q 4 33 [(0, .ref (nt_a w 0)), (1, .int x1), (2, .int x2), (3, .int y3)] [] g := fun y3 q => ih y3 q
    have hE0 : ∀ (y3 : Int32), nt_Qz (fun z => bMo_taken_33 x1 x2 g z) n Qx (.inr y3) → nt_G p l e (nt_rm 5) s m args below meth c w A 0 0 Q 4 51 [(0, .ref (nt_a w 0)), (1, .int x1), (2, .int x2), (3, .int y3)] [] g := hE0
    generalize nt_Qz (fun z => bMo_taken_33 x1 x2 g z) n Qx = Qz at h hI hE0
    unfold bMo_taken_33 at h
    refine nt_iload_n X dX9_taken_33 rfl 3 rfl ?_
    refine nt_iconst X dX9_taken_34 nt_ci_m1 ?_
    obtain ⟨ht, hf⟩ := nt_R_if h
    refine nt_icmp_eq X 51 dX9_taken_35 (by decide) (fun q7 => ?_) (fun q7 => ?_)
    · have h := ht q7
      refine nt_sub [0, 1, 2, 3] rfl ?_
      have h := nt_R_some h
      exact hE0 x3 h
    · have h := hf q7
      refine nt_iload_n X dX9_taken_38 rfl 3 rfl ?_
      refine nt_iload_n X dX9_taken_39 rfl 2 rfl ?_
      obtain ⟨ht, hf⟩ := nt_R_if h
      refine nt_icmp_eq X 51 dX9_taken_40 (by decide) (fun q8 => ?_) (fun q8 => ?_)
      · have h := ht q8
        refine nt_sub [0, 1, 2, 3] rfl ?_
        have h := nt_R_some h
        exact hE0 x3 h
      · have h := hf q8
        refine nt_iload_n X dX9_taken_43 rfl 3 rfl ?_
        obtain ⟨r9, er9, h⟩ := nt_R_b1 h
        refine nt_cSi X (As := [.int x3]) (cMo_over hw er9) wd_1006 wd_1004 wd_1005 wd_16 hd_X9_over ⟨Nat.le_of_ble_eq_true rfl, Nat.le_of_ble_eq_true rfl⟩ ⟨Nat.le_refl 0, Nat.le_refl 0⟩ (Nat.le_of_ble_eq_true rfl) rfl dX9_taken_44 ?_
        refine nt_istore_n X [(3, .int r9), (0, .ref (nt_a w 0)), (1, .int x1), (2, .int x2)] dX9_taken_47 rfl (by decide) rfl ?_
        refine nt_goto X 33 dX9_taken_48 (by decide) ?_
        refine nt_sub [1, 2, 3, 0] rfl ?_
        have h := nt_R_some h
        exact hI r9 h
def jMo_taken_51 (x1 : Int32) (x2 : Int32) (x3 : Int32) (g : nt_T) : Option (Int32) :=
  (if x3 = x2 then
    (nt_gd (nt_in x1 8) <| some (g 6 (Int32.toNatClampNeg x1)))
  else
    (some (-13 : Int32)))
set_option maxRecDepth 100000 in
set_option maxHeartbeats 4000000 in
theorem tjMo_taken_51 {p : Program} {l : Launch} {e : Env} {s : State} {m : MethodId} {args : Array Value} {below : List Frame} {meth : Method} {c : Code} {w : nt_w} {A : Nat → Prop} (hw : nt_isM w) {r : Int32} {g0 : nt_T}  (X : nt_X cX9_taken 4 RX9 (some .int) w A p s m args meth c) (x1 : Int32) (x2 : Int32) (x3 : Int32) (g : nt_T) (hg : g = g0) (h : nt_R (jMo_taken_51 x1 x2 x3 g) (fun z => z = r)) : nt_G p l e (nt_rm 5) s m args below meth c w A 0 0 (nt_Qi w A below args s r g0) 4 51 [(0, .ref (nt_a w 0)), (1, .int x1), (2, .int x2), (3, .int x3)] [] g := by
  unfold jMo_taken_51 at h
  refine nt_iload_n X dX9_taken_51 rfl 3 rfl ?_
  refine nt_iload_n X dX9_taken_52 rfl 2 rfl ?_
  obtain ⟨ht, hf⟩ := nt_R_if h
  refine nt_icmp_ne X 65 dX9_taken_53 (by decide) (fun q11 => ?_) (fun q11 => ?_)
  · have h := hf q11
    refine nt_bipush X dX9_taken_65 nt_cb_m13 ?_
    have h := nt_R_some h
    exact nt_iret X dX9_taken_67 (nt_pe h hg)
  · have h := ht q11
    refine nt_aload_n X dX9_taken_56 rfl 0 rfl ?_
    refine nt_get X 0 inX9 (nt_lM hw (Nat.le_of_ble_eq_true rfl)) (nt_m0 hw) rfl (j := 9) (by decide) wd_631 (v := .ref (nt_a w 6)) rfl dX9_taken_57 ?_
    refine nt_iload_n X dX9_taken_60 rfl 1 rfl ?_
    obtain ⟨q12, h⟩ := nt_R_gd h
    refine nt_iald X 6 0 (nt_lM hw (Nat.le_of_ble_eq_true rfl)) (nt_m6 hw) (nt_tM hw) q12 dX9_taken_61 ?_
    refine nt_goto X 67 dX9_taken_62 (by decide) ?_
    have h := nt_R_some h
    exact nt_iret X dX9_taken_67 (nt_pe h hg)
def fMo_taken (x1 : Int32) (x2 : Int32) (g : nt_T) : Option (Int32) :=
  nt_b1 (fMo_in (Int32.toInt64 x2) (0 : Int64) (5 : Int64) g) fun r1 => (if r1 = 0 then
    (some (-2 : Int32))
  else
    (nt_b1 (fMo_isStory x1 g) fun r3 => (if r3 = 0 then
    (some (-11 : Int32))
  else
    (nt_gd (nt_in x1 8) <| nt_lt (g 4 (Int32.toNatClampNeg x1)) fun v6 => (nt_b1 (nt_it (fun z => bMo_taken_33 x1 x2 g z) nt_fu v6) fun v10 => jMo_taken_51 x1 x2 v10 g)))))
set_option maxRecDepth 100000 in
set_option maxHeartbeats 4000000 in
theorem cMo_taken {l : Launch} {w : nt_w} (hw : nt_isM w) {x1 : Int32} {x2 : Int32} {g : nt_T} {r : Int32} (hf : fMo_taken x1 x2 g = some r) : nt_Mi l w yX9_taken cX9_taken 4 (some .int) 5 [.ref (nt_a w 0), .int x1, .int x2] g r g := by
  refine nt_Mi_of (by decide) (Nat.le_of_ble_eq_true rfl) (fun p e s m args below meth c A X => ?_)
  have X : nt_X cX9_taken 4 RX9 (some .int) w A p s m args meth c := X
  have hg : g = g := rfl
  have h : nt_R (fMo_taken x1 x2 g) (fun z => z = r) := ⟨_, hf, rfl⟩
  unfold fMo_taken at h
  show nt_G p l e (nt_rm 5) s m args below meth c w A 0 0 (nt_Qi w A below args s r g) 4 0 [(0, .ref (nt_a w 0)), (1, .int x1), (2, .int x2)] [] g
  refine nt_iload_n X dX9_taken_0 rfl 2 rfl ?_
  refine nt_i2l X dX9_taken_1 rfl ?_
  refine nt_lconst X dX9_taken_2 nt_cl_0 ?_
  refine nt_ldc2 X wd_729 dX9_taken_3 ?_
  obtain ⟨r1, er1, h⟩ := nt_R_b1 h
  refine nt_cSi X (As := [.long (Int32.toInt64 x2), .long (0 : Int64), .long (5 : Int64)]) (cMo_in hw er1) wd_732 wd_730 wd_731 wd_16 hd_X9_in ⟨Nat.le_of_ble_eq_true rfl, Nat.le_of_ble_eq_true rfl⟩ ⟨Nat.le_refl 0, Nat.le_refl 0⟩ (Nat.le_of_ble_eq_true rfl) rfl dX9_taken_6 ?_
  obtain ⟨ht, hf⟩ := nt_R_if h
  refine nt_if_ne X 15 dX9_taken_9 (by decide) (fun q2 => ?_) (fun q2 => ?_)
  · have h := hf q2
    refine nt_aload_n X dX9_taken_15 rfl 0 rfl ?_
    refine nt_iload_n X dX9_taken_16 rfl 1 rfl ?_
    obtain ⟨r3, er3, h⟩ := nt_R_b1 h
    refine nt_cVi X (As := [.int x1]) 0 (nt_lM hw (Nat.le_of_ble_eq_true rfl)) (nt_m0 hw) rfl (cMo_isStory hw er3) wd_740 wd_738 wd_739 wd_1076 wd_16 rfl hd_X9_isStory ⟨Nat.le_of_ble_eq_true rfl, Nat.le_of_ble_eq_true rfl⟩ ⟨Nat.le_refl 0, Nat.le_refl 0⟩ (Nat.le_of_ble_eq_true rfl) rfl dX9_taken_17 ?_
    obtain ⟨ht, hf⟩ := nt_R_if h
    refine nt_if_ne X 26 dX9_taken_20 (by decide) (fun q4 => ?_) (fun q4 => ?_)
    · have h := hf q4
      refine nt_aload_n X dX9_taken_26 rfl 0 rfl ?_
      refine nt_get X 0 inX9 (nt_lM hw (Nat.le_of_ble_eq_true rfl)) (nt_m0 hw) rfl (j := 7) (by decide) wd_629 (v := .ref (nt_a w 4)) rfl dX9_taken_27 ?_
      refine nt_iload_n X dX9_taken_30 rfl 1 rfl ?_
      obtain ⟨q5, h⟩ := nt_R_gd h
      refine nt_iald X 4 0 (nt_lM hw (Nat.le_of_ble_eq_true rfl)) (nt_m4 hw) (nt_tM hw) q5 dX9_taken_31 ?_
      obtain ⟨v6, ev6, h⟩ := nt_R_lt h
      refine nt_topi ev6 ?_
      refine nt_istore_n X [(3, .int v6), (0, .ref (nt_a w 0)), (1, .int x1), (2, .int x2)] dX9_taken_32 rfl (by decide) rfl ?_
      obtain ⟨z13, hz13, h⟩ := nt_R_b1 h
      refine nt_sub [1, 2, 3, 0] rfl ?_
      refine tbMo_taken_33 hw X x1 x2 g (Qx := fun z => z = z13) (fun v10 hq => ?_) nt_fu v6 ⟨_, hz13, rfl⟩
      subst hq
      exact tjMo_taken_51 hw X x1 x2 v10 g hg h
    · have h := ht q4
      refine nt_bipush X dX9_taken_23 nt_cb_m11 ?_
      have h := nt_R_some h
      exact nt_iret X dX9_taken_25 (nt_pe h hg)
  · have h := ht q2
    refine nt_bipush X dX9_taken_12 nt_cb_m2 ?_
    have h := nt_R_some h
    exact nt_iret X dX9_taken_14 (nt_pe h hg)
