def fNt_isBelow (x0 : Int32) (x1 : Int32) (g : nt_T) : Option (Int32) :=
  (if x0 < 0 then
    (some (0 : Int32))
  else
    ((if x1 ≤ x0 then
    (some (0 : Int32))
  else
    (some (1 : Int32)))))
set_option maxRecDepth 100000 in
set_option maxHeartbeats 4000000 in
theorem cNt_isBelow {l : Launch} {w : nt_w} (hw : nt_isX w) {x0 : Int32} {x1 : Int32} {g : nt_T} {r : Int32} (hf : fNt_isBelow x0 x1 g = some r) : nt_Mi l w yX8_isBelow cX8_isBelow 2 (some .boolean) 1 [.int x0, .int x1] g r g := by
  refine nt_Mi_of (by decide) (Nat.le_of_ble_eq_true rfl) (fun p e s m args below meth c A X => ?_)
  have X : nt_X cX8_isBelow 2 RX8 (some .boolean) w A p s m args meth c := X
  have hg : g = g := rfl
  have h : nt_R (fNt_isBelow x0 x1 g) (fun z => z = r) := ⟨_, hf, rfl⟩
  unfold fNt_isBelow at h
  show nt_G p l e (nt_rm 1) s m args below meth c w A 0 0 (nt_Qi w A below args s r g) 2 0 [(0, .int x0), (1, .int x1)] [] g
  refine nt_iload_n X dX8_isBelow_0 rfl 0 rfl ?_
  obtain ⟨ht, hf⟩ := nt_R_if h
  refine nt_if_lt X 13 dX8_isBelow_1 (by decide) (fun q1 => ?_) (fun q1 => ?_)
  · have h := ht q1
    refine nt_iconst X dX8_isBelow_13 nt_ci_0 ?_
    have h := nt_R_some h
    exact nt_zret X rfl dX8_isBelow_14 (by rw [hg, h])
  · have h := hf q1
    refine nt_iload_n X dX8_isBelow_4 rfl 0 rfl ?_
    refine nt_iload_n X dX8_isBelow_5 rfl 1 rfl ?_
    obtain ⟨ht, hf⟩ := nt_R_if h
    refine nt_icmp_ge X 13 dX8_isBelow_6 (by decide) (fun q2 => ?_) (fun q2 => ?_)
    · have h := ht q2
      refine nt_iconst X dX8_isBelow_13 nt_ci_0 ?_
      have h := nt_R_some h
      exact nt_zret X rfl dX8_isBelow_14 (by rw [hg, h])
    · have h := hf q2
      refine nt_iconst X dX8_isBelow_9 nt_ci_1 ?_
      refine nt_goto X 14 dX8_isBelow_10 (by decide) ?_
      have h := nt_R_some h
      exact nt_zret X rfl dX8_isBelow_14 (by rw [hg, h])
def fSh_has (x1 : Int32) (g : nt_T) : Option (Int32) :=
  nt_b1 (fNt_isBelow x1 (g 1 4) g) fun r1 => nt_gd (decide (narrow .boolean (.int r1) = .int r1)) <| some r1
set_option maxRecDepth 100000 in
set_option maxHeartbeats 4000000 in
theorem cSh_has {l : Launch} {w : nt_w} (hw : nt_isX w) {x1 : Int32} {g : nt_T} {r : Int32} (hf : fSh_has x1 g = some r) : nt_Mi l w yX5_has cX5_has 2 (some .boolean) 3 [.ref (nt_a w 1), .int x1] g r g := by
  refine nt_Mi_of (by decide) (Nat.le_of_ble_eq_true rfl) (fun p e s m args below meth c A X => ?_)
  have X : nt_X cX5_has 2 RX5 (some .boolean) w A p s m args meth c := X
  have hg : g = g := rfl
  have h : nt_R (fSh_has x1 g) (fun z => z = r) := ⟨_, hf, rfl⟩
  unfold fSh_has at h
  show nt_G p l e (nt_rm 3) s m args below meth c w A 0 0 (nt_Qi w A below args s r g) 2 0 [(0, .ref (nt_a w 1)), (1, .int x1)] [] g
  refine nt_iload_n X dX5_has_0 rfl 1 rfl ?_
  refine nt_aload_n X dX5_has_1 rfl 0 rfl ?_
  refine nt_get X 1 inX5 (nt_lX hw (Nat.le_of_ble_eq_true rfl)) (nt_e1 hw) rfl (j := 4) (by decide) wd_35 (v := .int (g 1 4)) rfl dX5_has_2 ?_
  obtain ⟨r1, er1, h⟩ := nt_R_b1 h
  refine nt_cSNi X (As := [.int x1, .int (g 1 4)]) (cNt_isBelow hw er1) wd_336 nt_nm14 wd_335 wd_1 hd_X8_isBelow ⟨Nat.le_of_ble_eq_true rfl, Nat.le_of_ble_eq_true rfl⟩ ⟨Nat.le_refl 0, Nat.le_refl 0⟩ (Nat.le_of_ble_eq_true rfl) rfl dX5_has_5 ?_
  obtain ⟨q2, h⟩ := nt_R_gd h
  have h := nt_R_some h
  exact nt_zret X (of_decide_eq_true q2) dX5_has_8 (by rw [hg, h])
def bSh_withTwins_4 (x1 : Int32) (g : nt_T) (x2 : Int32) (x3 : Int32) : Option ((Int32 × Int32) ⊕ ((Int32))) :=
  (if (g 1 4) ≤ x3 then
    (some (.inr x2))
  else
    ((if x1 = 0 then
    (some (.inr x2))
  else
    ((if ((x1 >>> (x3 &&& 31)) &&& (1 : Int32)) = (1 : Int32) then
    (nt_gd (nt_in x3 8) <| (if (g 5 (Int32.toNatClampNeg x3)) = (-1 : Int32) then
    (nt_lt (x3 + (1 : Int32)) fun v7 => some (.inl (x2, v7)))
  else
    (nt_gd (nt_in x3 8) <| nt_lt (x2 ||| ((1 : Int32) <<< ((g 5 (Int32.toNatClampNeg x3)) &&& 31))) fun v9 => nt_lt (x3 + (1 : Int32)) fun v10 => some (.inl (v9, v10)))))
  else
    (nt_lt (x3 + (1 : Int32)) fun v4 => some (.inl (x2, v4))))))))
set_option maxRecDepth 100000 in
set_option maxHeartbeats 4000000 in
theorem tbSh_withTwins_4 {p : Program} {l : Launch} {e : Env} {s : State} {m : MethodId} {args : Array Value} {below : List Frame} {meth : Method} {c : Code} {w : nt_w} {A : Nat → Prop} (hw : nt_isX w) {Q : State → Prop} (X : nt_X cX5_withTwins 4 RX5 (some .int) w A p s m args meth c) (x1 : Int32) (g : nt_T)  {Qx : ((Int32)) → Prop} (hE0 : ∀ (y2 : Int32), Qx y2 → nt_G p l e (nt_rm 1) s m args below meth c w A 0 0 Q 4 52 [(0, .ref (nt_a w 1)), (1, .int x1), (2, .int y2)] [] g) : ∀ (n : Nat) (x2 : Int32) (x3 : Int32), nt_R (nt_it (fun z => bSh_withTwins_4 x1 g z.1 z.2) n (x2, x3)) Qx → nt_G p l e (nt_rm 1) s m args below meth c w A 0 0 Q 4 4 [(0, .ref (nt_a w 1)), (1, .int x1), (2, .int x2), (3, .int x3)] [] g := by
  intro n
  induction n with
  | zero =>
    intro x2 x3 h
    exact nt_R_none h
  | succ n ih =>
    intro x2 x3 h
    have h : nt_R (bSh_withTwins_4 x1 g x2 x3) (nt_Qz (fun z => bSh_withTwins_4 x1 g z.1 z.2) n Qx) := nt_R_it h
    have hI : ∀ (y2 : Int32) (y3 : Int32), nt_Qz (fun z => bSh_withTwins_4 x1 g z.1 z.2) n Qx (.inl (y2, y3)) → nt_G p l e (nt_rm 1) s m args below meth c w A 0 0 Q 4 4 [(0, .ref (nt_a w 1)), (1, .int x1), (2, .int y2), (3, .int y3)] [] g := fun y2 y3 q => ih y2 y3 q
    have hE0 : ∀ (y2 : Int32), nt_Qz (fun z => bSh_withTwins_4 x1 g z.1 z.2) n Qx (.inr y2) → nt_G p l e (nt_rm 1) s m args below meth c w A 0 0 Q 4 52 [(0, .ref (nt_a w 1)), (1, .int x1), (2, .int y2)] [] g := hE0
    generalize nt_Qz (fun z => bSh_withTwins_4 x1 g z.1 z.2) n Qx = Qz at h hI hE0
    unfold bSh_withTwins_4 at h
    refine nt_iload_n X dX5_withTwins_4 rfl 3 rfl ?_
    refine nt_aload_n X dX5_withTwins_5 rfl 0 rfl ?_
    refine nt_get X 1 inX5 (nt_lX hw (Nat.le_of_ble_eq_true rfl)) (nt_e1 hw) rfl (j := 4) (by decide) wd_35 (v := .int (g 1 4)) rfl dX5_withTwins_6 ?_
    obtain ⟨ht, hf⟩ := nt_R_if h
    refine nt_icmp_ge X 52 dX5_withTwins_9 (by decide) (fun q1 => ?_) (fun q1 => ?_)
    · have h := ht q1
      refine nt_sub [0, 1, 2] rfl ?_
      have h := nt_R_some h
      exact hE0 x2 h
    · have h := hf q1
      refine nt_iload_n X dX5_withTwins_12 rfl 1 rfl ?_
      obtain ⟨ht, hf⟩ := nt_R_if h
      refine nt_if_eq X 52 dX5_withTwins_13 (by decide) (fun q2 => ?_) (fun q2 => ?_)
      · have h := ht q2
        refine nt_sub [0, 1, 2] rfl ?_
        have h := nt_R_some h
        exact hE0 x2 h
      · have h := hf q2
        refine nt_iload_n X dX5_withTwins_16 rfl 1 rfl ?_
        refine nt_iload_n X dX5_withTwins_17 rfl 3 rfl ?_
        refine nt_ishr X dX5_withTwins_18 ?_
        refine nt_iconst X dX5_withTwins_19 nt_ci_1 ?_
        refine nt_iand X dX5_withTwins_20 ?_
        refine nt_iconst X dX5_withTwins_21 nt_ci_1 ?_
        obtain ⟨ht, hf⟩ := nt_R_if h
        refine nt_icmp_ne X 46 dX5_withTwins_22 (by decide) (fun q3 => ?_) (fun q3 => ?_)
        · have h := hf q3
          obtain ⟨v4, ev4, h⟩ := nt_R_lt h
          refine nt_iinc X v4 [(3, .int v4), (0, .ref (nt_a w 1)), (1, .int x1), (2, .int x2)] dX5_withTwins_46 3 rfl (by rw [nt_ci_1]; exact ev4) (by decide) rfl ?_
          refine nt_goto X 4 dX5_withTwins_49 (by decide) ?_
          refine nt_sub [1, 2, 3, 0] rfl ?_
          have h := nt_R_some h
          exact hI x2 v4 h
        · have h := ht q3
          refine nt_aload_n X dX5_withTwins_25 rfl 0 rfl ?_
          refine nt_get X 1 inX5 (nt_lX hw (Nat.le_of_ble_eq_true rfl)) (nt_e1 hw) rfl (j := 3) (by decide) wd_34 (v := .ref (nt_a w 5)) rfl dX5_withTwins_26 ?_
          refine nt_iload_n X dX5_withTwins_29 rfl 3 rfl ?_
          obtain ⟨q5, h⟩ := nt_R_gd h
          refine nt_iald X 5 0 (nt_lX hw (Nat.le_of_ble_eq_true rfl)) (nt_e5 hw) (nt_tX hw) q5 dX5_withTwins_30 ?_
          refine nt_iconst X dX5_withTwins_31 nt_ci_m1 ?_
          obtain ⟨ht, hf⟩ := nt_R_if h
          refine nt_icmp_eq X 46 dX5_withTwins_32 (by decide) (fun q6 => ?_) (fun q6 => ?_)
          · have h := ht q6
            obtain ⟨v7, ev7, h⟩ := nt_R_lt h
            refine nt_iinc X v7 [(3, .int v7), (0, .ref (nt_a w 1)), (1, .int x1), (2, .int x2)] dX5_withTwins_46 3 rfl (by rw [nt_ci_1]; exact ev7) (by decide) rfl ?_
            refine nt_goto X 4 dX5_withTwins_49 (by decide) ?_
            refine nt_sub [1, 2, 3, 0] rfl ?_
            have h := nt_R_some h
            exact hI x2 v7 h
          · have h := hf q6
            refine nt_iload_n X dX5_withTwins_35 rfl 2 rfl ?_
            refine nt_iconst X dX5_withTwins_36 nt_ci_1 ?_
            refine nt_aload_n X dX5_withTwins_37 rfl 0 rfl ?_
            refine nt_get X 1 inX5 (nt_lX hw (Nat.le_of_ble_eq_true rfl)) (nt_e1 hw) rfl (j := 3) (by decide) wd_34 (v := .ref (nt_a w 5)) rfl dX5_withTwins_38 ?_
            refine nt_iload_n X dX5_withTwins_41 rfl 3 rfl ?_
            obtain ⟨q8, h⟩ := nt_R_gd h
            refine nt_iald X 5 0 (nt_lX hw (Nat.le_of_ble_eq_true rfl)) (nt_e5 hw) (nt_tX hw) q8 dX5_withTwins_42 ?_
            refine nt_ishl X dX5_withTwins_43 ?_
            refine nt_ior X dX5_withTwins_44 ?_
            obtain ⟨v9, ev9, h⟩ := nt_R_lt h
            refine nt_topi ev9 ?_
            refine nt_istore_n X [(2, .int v9), (0, .ref (nt_a w 1)), (1, .int x1), (3, .int x3)] dX5_withTwins_45 rfl (by decide) rfl ?_
            obtain ⟨v10, ev10, h⟩ := nt_R_lt h
            refine nt_iinc X v10 [(3, .int v10), (2, .int v9), (0, .ref (nt_a w 1)), (1, .int x1)] dX5_withTwins_46 3 rfl (by rw [nt_ci_1]; exact ev10) (by decide) rfl ?_
            refine nt_goto X 4 dX5_withTwins_49 (by decide) ?_
            refine nt_sub [2, 3, 1, 0] rfl ?_
            have h := nt_R_some h
            exact hI v9 v10 h
def fSh_withTwins (x1 : Int32) (g : nt_T) : Option (Int32) :=
  (nt_b1 (nt_it (fun z => bSh_withTwins_4 x1 g z.1 z.2) nt_fu (x1, (0 : Int32))) fun v11 => some v11)
set_option maxRecDepth 100000 in
set_option maxHeartbeats 4000000 in
theorem cSh_withTwins {l : Launch} {w : nt_w} (hw : nt_isX w) {x1 : Int32} {g : nt_T} {r : Int32} (hf : fSh_withTwins x1 g = some r) : nt_Mi l w yX5_withTwins cX5_withTwins 4 (some .int) 1 [.ref (nt_a w 1), .int x1] g r g := by
  refine nt_Mi_of (by decide) (Nat.le_of_ble_eq_true rfl) (fun p e s m args below meth c A X => ?_)
  have X : nt_X cX5_withTwins 4 RX5 (some .int) w A p s m args meth c := X
  have hg : g = g := rfl
  have h : nt_R (fSh_withTwins x1 g) (fun z => z = r) := ⟨_, hf, rfl⟩
  unfold fSh_withTwins at h
  show nt_G p l e (nt_rm 1) s m args below meth c w A 0 0 (nt_Qi w A below args s r g) 4 0 [(0, .ref (nt_a w 1)), (1, .int x1)] [] g
  refine nt_iload_n X dX5_withTwins_0 rfl 1 rfl ?_
  refine nt_istore_n X [(2, .int x1), (0, .ref (nt_a w 1)), (1, .int x1)] dX5_withTwins_1 rfl (by decide) rfl ?_
  refine nt_iconst X dX5_withTwins_2 nt_ci_0 ?_
  refine nt_istore_n X [(3, .int (0 : Int32)), (2, .int x1), (0, .ref (nt_a w 1)), (1, .int x1)] dX5_withTwins_3 rfl (by decide) rfl ?_
  obtain ⟨z12, hz12, h⟩ := nt_R_b1 h
  refine nt_sub [2, 3, 1, 0] rfl ?_
  refine tbSh_withTwins_4 hw X x1 g (Qx := fun z => z = z12) (fun v11 hq => ?_) nt_fu x1 (0 : Int32) ⟨_, hz12, rfl⟩
  subst hq
  refine nt_iload_n X dX5_withTwins_52 rfl 2 rfl ?_
  have h := nt_R_some h
  exact nt_iret X dX5_withTwins_53 (by rw [hg, h])
def fPp_knows (b : Nat) (x1 : Int32) (g : nt_T) : Option (Int32) :=
  nt_gd (nt_in x1 9) <| nt_b1 (fSh_withTwins (g (b + 4) (Int32.toNatClampNeg x1)) g) fun r2 => some r2
set_option maxRecDepth 100000 in
set_option maxHeartbeats 4000000 in
theorem cPp_knows {l : Launch} {w : nt_w} (hw : nt_isX w) {b : Nat} (hb : nt_isP b) {x1 : Int32} {g : nt_T} {r : Int32} (hf : fPp_knows b x1 g = some r) : nt_Mi l w yX0_knows cX0_knows 2 (some .int) 3 [.ref (nt_a w b), .int x1] g r g := by
  refine nt_Mi_of (by decide) (Nat.le_of_ble_eq_true rfl) (fun p e s m args below meth c A X => ?_)
  have X : nt_X cX0_knows 2 RX0 (some .int) w A p s m args meth c := X
  have hg : g = g := rfl
  have h : nt_R (fPp_knows b x1 g) (fun z => z = r) := ⟨_, hf, rfl⟩
  unfold fPp_knows at h
  show nt_G p l e (nt_rm 3) s m args below meth c w A 0 0 (nt_Qi w A below args s r g) 2 0 [(0, .ref (nt_a w b)), (1, .int x1)] [] g
  refine nt_aload_n X dX0_knows_0 rfl 0 rfl ?_
  refine nt_get X b inX0 (nt_lP hw hb 0 (by decide)) (nt_eP hw hb) rfl (j := 0) (by decide) wd_250 (v := .ref (nt_a w 1)) rfl dX0_knows_1 ?_
  refine nt_aload_n X dX0_knows_4 rfl 0 rfl ?_
  refine nt_get X b inX0 (nt_lP hw hb 0 (by decide)) (nt_eP hw hb) rfl (j := 5) (by decide) wd_255 (v := .ref (nt_a w (b + 4))) rfl dX0_knows_5 ?_
  refine nt_iload_n X dX0_knows_8 rfl 1 rfl ?_
  obtain ⟨q1, h⟩ := nt_R_gd h
  refine nt_iald X (b + 4) 0 (nt_lP hw hb 4 (by decide)) (nt_eP4 hw hb) (nt_tX hw) q1 dX0_knows_9 ?_
  obtain ⟨r2, er2, h⟩ := nt_R_b1 h
  refine nt_cVNi X (As := [.int (g (b + 4) (Int32.toNatClampNeg x1))]) 1 (nt_lX hw (Nat.le_of_ble_eq_true rfl)) (nt_e1 hw) rfl (cSh_withTwins hw er2) wd_396 nt_nm24 wd_395 wd_1036 wd_2 hd_X5_withTwins ⟨Nat.le_of_ble_eq_true rfl, Nat.le_of_ble_eq_true rfl⟩ ⟨Nat.le_refl 0, Nat.le_refl 0⟩ (Nat.le_of_ble_eq_true rfl) rfl dX0_knows_10 ?_
  have h := nt_R_some h
  exact nt_iret X dX0_knows_13 (by rw [hg, h])
def bPp_lookInto_17 (b : Nat) (x1 : Int32) (x2 : Int32) (g : nt_T) : Option ((Int32 × nt_T) ⊕ ((nt_T))) :=
  (if (g b 7) ≤ x2 then
    (some (.inr g))
  else
    (nt_gd (nt_in x2 9) <| (if (g (b + 1) (Int32.toNatClampNeg x2)) = x1 then
    (nt_lt (nt_st g b 10 ((g b 10) + (1 : Int32))) fun g8 => nt_b1 (fPp_knows b x2 g8) fun r9 => nt_gd (nt_in x2 9) <| nt_lt (nt_st g8 (b + 6) (Int32.toNatClampNeg x2) r9) fun g11 => nt_gd (nt_in x2 9) <| nt_lt (nt_st g11 b 13 ((g11 b 13) ||| ((g11 b 12) &&& (g11 (b + 6) (Int32.toNatClampNeg x2))))) fun g13 => nt_gd (nt_in x2 9) <| nt_lt (nt_st g13 b 12 ((g13 b 12) ||| (g13 (b + 6) (Int32.toNatClampNeg x2)))) fun g15 => nt_lt (x2 + (1 : Int32)) fun v16 => some (.inl (v16, g15)))
  else
    (nt_lt (x2 + (1 : Int32)) fun v7 => some (.inl (v7, g))))))
set_option maxRecDepth 100000 in
set_option maxHeartbeats 4000000 in
theorem tbPp_lookInto_17 {p : Program} {l : Launch} {e : Env} {s : State} {m : MethodId} {args : Array Value} {below : List Frame} {meth : Method} {c : Code} {w : nt_w} {A : Nat → Prop} {b : Nat} (hw : nt_isX w) (hb : nt_isP b) {Q : State → Prop} (X : nt_X cX0_lookInto 3 RX0 none w A p s m args meth c) (x1 : Int32)  {Qx : ((nt_T)) → Prop} (hE0 : ∀ (gy : nt_T), Qx gy → nt_G p l e (nt_rm 5) s m args below meth c w A 0 0 Q 3 97 [(0, .ref (nt_a w b)), (1, .int x1)] [] gy) : ∀ (n : Nat) (x2 : Int32) (g : nt_T), nt_R (nt_it (fun z => bPp_lookInto_17 b x1 z.1 z.2) n (x2, g)) Qx → nt_G p l e (nt_rm 5) s m args below meth c w A 0 0 Q 3 17 [(0, .ref (nt_a w b)), (1, .int x1), (2, .int x2)] [] g := by
  intro n
  induction n with
  | zero =>
    intro x2 g h
    exact nt_R_none h
  | succ n ih =>
    intro x2 g h
    have h : nt_R (bPp_lookInto_17 b x1 x2 g) (nt_Qz (fun z => bPp_lookInto_17 b x1 z.1 z.2) n Qx) := nt_R_it h
    have hI : ∀ (y2 : Int32) (gy : nt_T), nt_Qz (fun z => bPp_lookInto_17 b x1 z.1 z.2) n Qx (.inl (y2, gy)) → nt_G p l e (nt_rm 5) s m args below meth c w A 0 0 Q 3 17 [(0, .ref (nt_a w b)), (1, .int x1), (2, .int y2)] [] gy := fun y2 gy q => ih y2 gy q
    have hE0 : ∀ (gy : nt_T), nt_Qz (fun z => bPp_lookInto_17 b x1 z.1 z.2) n Qx (.inr gy) → nt_G p l e (nt_rm 5) s m args below meth c w A 0 0 Q 3 97 [(0, .ref (nt_a w b)), (1, .int x1)] [] gy := hE0
    generalize nt_Qz (fun z => bPp_lookInto_17 b x1 z.1 z.2) n Qx = Qz at h hI hE0
    unfold bPp_lookInto_17 at h
    refine nt_iload_n X dX0_lookInto_17 rfl 2 rfl ?_
    refine nt_aload_n X dX0_lookInto_18 rfl 0 rfl ?_
    refine nt_get X b inX0 (nt_lP hw hb 0 (by decide)) (nt_eP hw hb) rfl (j := 7) (by decide) wd_257 (v := .int (g b 7)) rfl dX0_lookInto_19 ?_
    obtain ⟨ht, hf⟩ := nt_R_if h
    refine nt_icmp_ge X 97 dX0_lookInto_22 (by decide) (fun q4 => ?_) (fun q4 => ?_)
    · have h := ht q4
      refine nt_sub [0, 1] rfl ?_
      have h := nt_R_some h
      exact hE0 g h
    · have h := hf q4
      refine nt_aload_n X dX0_lookInto_25 rfl 0 rfl ?_
      refine nt_get X b inX0 (nt_lP hw hb 0 (by decide)) (nt_eP hw hb) rfl (j := 2) (by decide) wd_252 (v := .ref (nt_a w (b + 1))) rfl dX0_lookInto_26 ?_
      refine nt_iload_n X dX0_lookInto_29 rfl 2 rfl ?_
      obtain ⟨q5, h⟩ := nt_R_gd h
      refine nt_iald X (b + 1) 0 (nt_lP hw hb 1 (by decide)) (nt_eP1 hw hb) (nt_tX hw) q5 dX0_lookInto_30 ?_
      refine nt_iload_n X dX0_lookInto_31 rfl 1 rfl ?_
      obtain ⟨ht, hf⟩ := nt_R_if h
      refine nt_icmp_ne X 91 dX0_lookInto_32 (by decide) (fun q6 => ?_) (fun q6 => ?_)
      · have h := hf q6
        obtain ⟨v7, ev7, h⟩ := nt_R_lt h
        refine nt_iinc X v7 [(2, .int v7), (0, .ref (nt_a w b)), (1, .int x1)] dX0_lookInto_91 2 rfl (by rw [nt_ci_1]; exact ev7) (by decide) rfl ?_
        refine nt_goto X 17 dX0_lookInto_94 (by decide) ?_
        refine nt_sub [1, 2, 0] rfl ?_
        have h := nt_R_some h
        exact hI v7 g h
      · have h := ht q6
        refine nt_aload_n X dX0_lookInto_35 rfl 0 rfl ?_
        refine nt_dup X dX0_lookInto_36 rfl ?_
        refine nt_get X b inX0 (nt_lP hw hb 0 (by decide)) (nt_eP hw hb) rfl (j := 10) (by decide) wd_260 (v := .int (g b 10)) rfl dX0_lookInto_37 ?_
        refine nt_iconst X dX0_lookInto_40 nt_ci_1 ?_
        refine nt_iadd X dX0_lookInto_41 ?_
        refine nt_put X b inX0 (nt_lP hw hb 0 (by decide)) (nt_eP hw hb) rfl (j := 10) (by decide) wd_260 tyX0 tyX0_ok nmX0 rfl (ty := .int) rfl rfl rfl (fun _ => Nat.le_of_ble_eq_true rfl) (fun _ => rfl) dX0_lookInto_42 ?_
        obtain ⟨g8, eg8, h⟩ := nt_R_lt h
        refine nt_geq eg8 ?_
        refine nt_aload_n X dX0_lookInto_45 rfl 0 rfl ?_
        refine nt_get X b inX0 (nt_lP hw hb 0 (by decide)) (nt_eP hw hb) rfl (j := 11) (by decide) wd_261 (v := .ref (nt_a w (b + 6))) rfl dX0_lookInto_46 ?_
        refine nt_iload_n X dX0_lookInto_49 rfl 2 rfl ?_
        refine nt_aload_n X dX0_lookInto_50 rfl 0 rfl ?_
        refine nt_iload_n X dX0_lookInto_51 rfl 2 rfl ?_
        obtain ⟨r9, er9, h⟩ := nt_R_b1 h
        refine nt_cVi X (As := [.int x2]) b (nt_lP hw hb 0 (by decide)) (nt_eP hw hb) rfl (cPp_knows hw hb er9) wd_394 wd_422 wd_393 wd_1035 wd_13 rfl hd_X0_knows ⟨Nat.le_of_ble_eq_true rfl, Nat.le_of_ble_eq_true rfl⟩ ⟨Nat.le_refl 0, Nat.le_refl 0⟩ (Nat.le_of_ble_eq_true rfl) rfl dX0_lookInto_52 ?_
        obtain ⟨q10, h⟩ := nt_R_gd h
        refine nt_iast X (b + 6) 0 (nt_lP hw hb 6 (by decide)) (nt_eP6 hw hb) (nt_tX hw) q10 dX0_lookInto_55 ?_
        obtain ⟨g11, eg11, h⟩ := nt_R_lt h
        refine nt_geq eg11 ?_
        refine nt_aload_n X dX0_lookInto_56 rfl 0 rfl ?_
        refine nt_dup X dX0_lookInto_57 rfl ?_
        refine nt_get X b inX0 (nt_lP hw hb 0 (by decide)) (nt_eP hw hb) rfl (j := 13) (by decide) wd_263 (v := .int (g11 b 13)) rfl dX0_lookInto_58 ?_
        refine nt_aload_n X dX0_lookInto_61 rfl 0 rfl ?_
        refine nt_get X b inX0 (nt_lP hw hb 0 (by decide)) (nt_eP hw hb) rfl (j := 12) (by decide) wd_262 (v := .int (g11 b 12)) rfl dX0_lookInto_62 ?_
        refine nt_aload_n X dX0_lookInto_65 rfl 0 rfl ?_
        refine nt_get X b inX0 (nt_lP hw hb 0 (by decide)) (nt_eP hw hb) rfl (j := 11) (by decide) wd_261 (v := .ref (nt_a w (b + 6))) rfl dX0_lookInto_66 ?_
        refine nt_iload_n X dX0_lookInto_69 rfl 2 rfl ?_
        obtain ⟨q12, h⟩ := nt_R_gd h
        refine nt_iald X (b + 6) 0 (nt_lP hw hb 6 (by decide)) (nt_eP6 hw hb) (nt_tX hw) q12 dX0_lookInto_70 ?_
        refine nt_iand X dX0_lookInto_71 ?_
        refine nt_ior X dX0_lookInto_72 ?_
        refine nt_put X b inX0 (nt_lP hw hb 0 (by decide)) (nt_eP hw hb) rfl (j := 13) (by decide) wd_263 tyX0 tyX0_ok nmX0 rfl (ty := .int) rfl rfl rfl (fun _ => Nat.le_of_ble_eq_true rfl) (fun _ => rfl) dX0_lookInto_73 ?_
        obtain ⟨g13, eg13, h⟩ := nt_R_lt h
        refine nt_geq eg13 ?_
        refine nt_aload_n X dX0_lookInto_76 rfl 0 rfl ?_
        refine nt_dup X dX0_lookInto_77 rfl ?_
        refine nt_get X b inX0 (nt_lP hw hb 0 (by decide)) (nt_eP hw hb) rfl (j := 12) (by decide) wd_262 (v := .int (g13 b 12)) rfl dX0_lookInto_78 ?_
        refine nt_aload_n X dX0_lookInto_81 rfl 0 rfl ?_
        refine nt_get X b inX0 (nt_lP hw hb 0 (by decide)) (nt_eP hw hb) rfl (j := 11) (by decide) wd_261 (v := .ref (nt_a w (b + 6))) rfl dX0_lookInto_82 ?_
        refine nt_iload_n X dX0_lookInto_85 rfl 2 rfl ?_
        obtain ⟨q14, h⟩ := nt_R_gd h
        refine nt_iald X (b + 6) 0 (nt_lP hw hb 6 (by decide)) (nt_eP6 hw hb) (nt_tX hw) q14 dX0_lookInto_86 ?_
        refine nt_ior X dX0_lookInto_87 ?_
        refine nt_put X b inX0 (nt_lP hw hb 0 (by decide)) (nt_eP hw hb) rfl (j := 12) (by decide) wd_262 tyX0 tyX0_ok nmX0 rfl (ty := .int) rfl rfl rfl (fun _ => Nat.le_of_ble_eq_true rfl) (fun _ => rfl) dX0_lookInto_88 ?_
        obtain ⟨g15, eg15, h⟩ := nt_R_lt h
        refine nt_geq eg15 ?_
        obtain ⟨v16, ev16, h⟩ := nt_R_lt h
        refine nt_iinc X v16 [(2, .int v16), (0, .ref (nt_a w b)), (1, .int x1)] dX0_lookInto_91 2 rfl (by rw [nt_ci_1]; exact ev16) (by decide) rfl ?_
        refine nt_goto X 17 dX0_lookInto_94 (by decide) ?_
        refine nt_sub [1, 2, 0] rfl ?_
        have h := nt_R_some h
        exact hI v16 g15 h
def fPp_lookInto (b : Nat) (x1 : Int32) (g : nt_T) : Option (nt_T) :=
  nt_lt (nt_st g b 10 (0 : Int32)) fun g1 => nt_lt (nt_st g1 b 12 (0 : Int32)) fun g2 => nt_lt (nt_st g2 b 13 (0 : Int32)) fun g3 => (nt_b1 (nt_it (fun z => bPp_lookInto_17 b x1 z.1 z.2) nt_fu ((0 : Int32), g3)) fun g17 => some g17)
set_option maxRecDepth 100000 in
set_option maxHeartbeats 4000000 in
theorem cPp_lookInto {l : Launch} {w : nt_w} (hw : nt_isX w) {b : Nat} (hb : nt_isP b) {x1 : Int32} {g : nt_T} {g2 : nt_T} (hf : fPp_lookInto b x1 g = some g2) : nt_Mv l w yX0_lookInto cX0_lookInto 3 none 5 [.ref (nt_a w b), .int x1] g g2 := by
  refine nt_Mv_of (by decide) (Nat.le_of_ble_eq_true rfl) (fun p e s m args below meth c A X => ?_)
  have X : nt_X cX0_lookInto 3 RX0 none w A p s m args meth c := X
  have h : nt_R (fPp_lookInto b x1 g) (fun z => z = g2) := ⟨_, hf, rfl⟩
  unfold fPp_lookInto at h
  show nt_G p l e (nt_rm 5) s m args below meth c w A 0 0 (nt_Qv w A below args s g2) 3 0 [(0, .ref (nt_a w b)), (1, .int x1)] [] g
  refine nt_aload_n X dX0_lookInto_0 rfl 0 rfl ?_
  refine nt_iconst X dX0_lookInto_1 nt_ci_0 ?_
  refine nt_put X b inX0 (nt_lP hw hb 0 (by decide)) (nt_eP hw hb) rfl (j := 10) (by decide) wd_260 tyX0 tyX0_ok nmX0 rfl (ty := .int) rfl rfl rfl (fun _ => Nat.le_of_ble_eq_true rfl) (fun _ => rfl) dX0_lookInto_2 ?_
  obtain ⟨g1, eg1, h⟩ := nt_R_lt h
  refine nt_geq eg1 ?_
  refine nt_aload_n X dX0_lookInto_5 rfl 0 rfl ?_
  refine nt_iconst X dX0_lookInto_6 nt_ci_0 ?_
  refine nt_put X b inX0 (nt_lP hw hb 0 (by decide)) (nt_eP hw hb) rfl (j := 12) (by decide) wd_262 tyX0 tyX0_ok nmX0 rfl (ty := .int) rfl rfl rfl (fun _ => Nat.le_of_ble_eq_true rfl) (fun _ => rfl) dX0_lookInto_7 ?_
  obtain ⟨g2, eg2, h⟩ := nt_R_lt h
  refine nt_geq eg2 ?_
  refine nt_aload_n X dX0_lookInto_10 rfl 0 rfl ?_
  refine nt_iconst X dX0_lookInto_11 nt_ci_0 ?_
  refine nt_put X b inX0 (nt_lP hw hb 0 (by decide)) (nt_eP hw hb) rfl (j := 13) (by decide) wd_263 tyX0 tyX0_ok nmX0 rfl (ty := .int) rfl rfl rfl (fun _ => Nat.le_of_ble_eq_true rfl) (fun _ => rfl) dX0_lookInto_12 ?_
  obtain ⟨g3, eg3, h⟩ := nt_R_lt h
  refine nt_geq eg3 ?_
  refine nt_iconst X dX0_lookInto_15 nt_ci_0 ?_
  refine nt_istore_n X [(2, .int (0 : Int32)), (0, .ref (nt_a w b)), (1, .int x1)] dX0_lookInto_16 rfl (by decide) rfl ?_
  obtain ⟨z18, hz18, h⟩ := nt_R_b1 h
  refine nt_sub [1, 2, 0] rfl ?_
  refine tbPp_lookInto_17 hw hb X x1 (Qx := fun z => z = z18) (fun g17 hq => ?_) nt_fu (0 : Int32) g3 ⟨_, hz18, rfl⟩
  subst hq
  have h := nt_R_some h
  exact nt_vret X dX0_lookInto_97 h
