def bSe_waysOver_4 (x1 : Int32) (g : nt_T) (x2 : Int32) (x3 : Int32) : Option ((Int32 × Int32) ⊕ ((Int32))) :=
  (if (g 14 7) ≤ x3 then
    (some (.inr x2))
  else
    (nt_lt (x2 * x1) fun v2 => nt_lt (x3 + (1 : Int32)) fun v3 => some (.inl (v2, v3))))
set_option maxRecDepth 100000 in
set_option maxHeartbeats 4000000 in
theorem tbSe_waysOver_4 {p : Program} {l : Launch} {e : Env} {s : State} {m : MethodId} {args : Array Value} {below : List Frame} {meth : Method} {c : Code} {w : nt_w} {A : Nat → Prop} (hw : nt_isX w) {Q : State → Prop} (X : nt_X cX3_waysOver 4 RX3 (some .int) w A p s m args meth c) (x1 : Int32) (g : nt_T)  {Qx : ((Int32)) → Prop} (hE0 : ∀ (y2 : Int32), Qx y2 → nt_G p l e (nt_rm 1) s m args below meth c w A 0 0 Q 4 25 [(0, .ref (nt_a w 35)), (1, .int x1), (2, .int y2)] [] g) : ∀ (n : Nat) (x2 : Int32) (x3 : Int32), nt_R (nt_it (fun z => bSe_waysOver_4 x1 g z.1 z.2) n (x2, x3)) Qx → nt_G p l e (nt_rm 1) s m args below meth c w A 0 0 Q 4 4 [(0, .ref (nt_a w 35)), (1, .int x1), (2, .int x2), (3, .int x3)] [] g := by
  intro n
  induction n with
  | zero =>
    intro x2 x3 h
    exact nt_R_none h
  | succ n ih =>
    intro x2 x3 h
    have h : nt_R (bSe_waysOver_4 x1 g x2 x3) (nt_Qz (fun z => bSe_waysOver_4 x1 g z.1 z.2) n Qx) := nt_R_it h
    have hI : ∀ (y2 : Int32) (y3 : Int32), nt_Qz (fun z => bSe_waysOver_4 x1 g z.1 z.2) n Qx (.inl (y2, y3)) → nt_G p l e (nt_rm 1) s m args below meth c w A 0 0 Q 4 4 [(0, .ref (nt_a w 35)), (1, .int x1), (2, .int y2), (3, .int y3)] [] g := fun y2 y3 q => ih y2 y3 q
    have hE0 : ∀ (y2 : Int32), nt_Qz (fun z => bSe_waysOver_4 x1 g z.1 z.2) n Qx (.inr y2) → nt_G p l e (nt_rm 1) s m args below meth c w A 0 0 Q 4 25 [(0, .ref (nt_a w 35)), (1, .int x1), (2, .int y2)] [] g := hE0
    generalize nt_Qz (fun z => bSe_waysOver_4 x1 g z.1 z.2) n Qx = Qz at h hI hE0
    unfold bSe_waysOver_4 at h
    refine nt_iload_n X dX3_waysOver_4 rfl 3 rfl ?_
    refine nt_aload_n X dX3_waysOver_5 rfl 0 rfl ?_
    refine nt_get X 35 inX3 (nt_lX hw (Nat.le_of_ble_eq_true rfl)) (nt_e35 hw) rfl (j := 0) (by decide) wd_283 (v := .ref (nt_a w 14)) rfl dX3_waysOver_6 ?_
    refine nt_getN X 14 inX0 (nt_lP hw nt_p14 0 (by decide)) (nt_eP hw nt_p14) rfl (j := 7) (by decide) nt_nf17 (v := .int (g 14 7)) rfl dX3_waysOver_9 ?_
    obtain ⟨ht, hf⟩ := nt_R_if h
    refine nt_icmp_ge X 25 dX3_waysOver_12 (by decide) (fun q1 => ?_) (fun q1 => ?_)
    · have h := ht q1
      refine nt_sub [0, 1, 2] rfl ?_
      have h := nt_R_some h
      exact hE0 x2 h
    · have h := hf q1
      refine nt_iload_n X dX3_waysOver_15 rfl 2 rfl ?_
      refine nt_iload_n X dX3_waysOver_16 rfl 1 rfl ?_
      refine nt_imul X dX3_waysOver_17 ?_
      obtain ⟨v2, ev2, h⟩ := nt_R_lt h
      refine nt_topi ev2 ?_
      refine nt_istore_n X [(2, .int v2), (0, .ref (nt_a w 35)), (1, .int x1), (3, .int x3)] dX3_waysOver_18 rfl (by decide) rfl ?_
      obtain ⟨v3, ev3, h⟩ := nt_R_lt h
      refine nt_iinc X v3 [(3, .int v3), (2, .int v2), (0, .ref (nt_a w 35)), (1, .int x1)] dX3_waysOver_19 3 rfl (by rw [nt_ci_1]; exact ev3) (by decide) rfl ?_
      refine nt_goto X 4 dX3_waysOver_22 (by decide) ?_
      refine nt_sub [2, 3, 1, 0] rfl ?_
      have h := nt_R_some h
      exact hI v2 v3 h
def fSe_waysOver (x1 : Int32) (g : nt_T) : Option (Int32) :=
  (nt_b1 (nt_it (fun z => bSe_waysOver_4 x1 g z.1 z.2) nt_fu ((1 : Int32), (0 : Int32))) fun v4 => some v4)
set_option maxRecDepth 100000 in
set_option maxHeartbeats 4000000 in
theorem cSe_waysOver {l : Launch} {w : nt_w} (hw : nt_isX w) {x1 : Int32} {g : nt_T} {r : Int32} (hf : fSe_waysOver x1 g = some r) : nt_Mi l w yX3_waysOver cX3_waysOver 4 (some .int) 1 [.ref (nt_a w 35), .int x1] g r g := by
  refine nt_Mi_of (by decide) (Nat.le_of_ble_eq_true rfl) (fun p e s m args below meth c A X => ?_)
  have X : nt_X cX3_waysOver 4 RX3 (some .int) w A p s m args meth c := X
  have hg : g = g := rfl
  have h : nt_R (fSe_waysOver x1 g) (fun z => z = r) := ⟨_, hf, rfl⟩
  unfold fSe_waysOver at h
  show nt_G p l e (nt_rm 1) s m args below meth c w A 0 0 (nt_Qi w A below args s r g) 4 0 [(0, .ref (nt_a w 35)), (1, .int x1)] [] g
  refine nt_iconst X dX3_waysOver_0 nt_ci_1 ?_
  refine nt_istore_n X [(2, .int (1 : Int32)), (0, .ref (nt_a w 35)), (1, .int x1)] dX3_waysOver_1 rfl (by decide) rfl ?_
  refine nt_iconst X dX3_waysOver_2 nt_ci_0 ?_
  refine nt_istore_n X [(3, .int (0 : Int32)), (2, .int (1 : Int32)), (0, .ref (nt_a w 35)), (1, .int x1)] dX3_waysOver_3 rfl (by decide) rfl ?_
  obtain ⟨z5, hz5, h⟩ := nt_R_b1 h
  refine nt_sub [2, 3, 1, 0] rfl ?_
  refine tbSe_waysOver_4 hw X x1 g (Qx := fun z => z = z5) (fun v4 hq => ?_) nt_fu (1 : Int32) (0 : Int32) ⟨_, hz5, rfl⟩
  subst hq
  refine nt_iload_n X dX3_waysOver_25 rfl 2 rfl ?_
  have h := nt_R_some h
  exact nt_iret X dX3_waysOver_26 (nt_pe h hg)
def bSe_awakeOf_24 (nr : Nat) (ln : Nat → Nat) (x1 : Int32) (x2 : Int32) (x3 : Int32) (x4 : Int32) (g : nt_T) : Option ((Int32 × Int32 × nt_T) ⊕ ((Int32 × nt_T))) :=
  (if (g 1 4) ≤ x4 then
    (some (.inr (x3, g)))
  else
    ((if ((x3 >>> (x4 &&& 31)) &&& (1 : Int32)) = (1 : Int32) then
    (nt_b2 (fPp_value nr ln 14 (2 : Int32) x1 x4 x2 g) fun r7 g8 => (if r7 = 0 then
    (nt_lt (x4 + (1 : Int32)) fun v10 => some (.inl (x3, v10, g8)))
  else
    (nt_lt (x3 &&& (((1 : Int32) <<< (x4 &&& 31)) ^^^ (-1 : Int32))) fun v11 => nt_lt (x4 + (1 : Int32)) fun v12 => some (.inl (v11, v12, g8)))))
  else
    (nt_lt (x4 + (1 : Int32)) fun v6 => some (.inl (x3, v6, g))))))
set_option maxRecDepth 100000 in
set_option maxHeartbeats 4000000 in
theorem tbSe_awakeOf_24 {p : Program} {l : Launch} {e : Env} {s : State} {m : MethodId} {args : Array Value} {below : List Frame} {meth : Method} {c : Code} {w : nt_w} {A : Nat → Prop} {nr : Nat} {ln : Nat → Nat} (hw : nt_isX w)  (hR : nt_isR w nr ln) {Q : State → Prop} (X : nt_X cX3_awakeOf 5 RX3 (some .int) w A p s m args meth c) (x1 : Int32) (x2 : Int32)  {Qx : ((Int32 × nt_T)) → Prop} (hE0 : ∀ (y3 : Int32) (gy : nt_T), Qx (y3, gy) → nt_G p l e (nt_rm 7) s m args below meth c w A 0 0 Q 5 79 [(0, .ref (nt_a w 35)), (1, .int x1), (2, .int x2), (3, .int y3)] [] gy) : ∀ (n : Nat) (x3 : Int32) (x4 : Int32) (g : nt_T), nt_R (nt_it (fun z => bSe_awakeOf_24 nr ln x1 x2 z.1 z.2.1 z.2.2) n (x3, x4, g)) Qx → nt_G p l e (nt_rm 7) s m args below meth c w A 0 0 Q 5 24 [(0, .ref (nt_a w 35)), (1, .int x1), (2, .int x2), (3, .int x3), (4, .int x4)] [] g := by
  intro n
  induction n with
  | zero =>
    intro x3 x4 g h
    exact nt_R_none h
  | succ n ih =>
    intro x3 x4 g h
    have h : nt_R (bSe_awakeOf_24 nr ln x1 x2 x3 x4 g) (nt_Qz (fun z => bSe_awakeOf_24 nr ln x1 x2 z.1 z.2.1 z.2.2) n Qx) := nt_R_it h
    have hI : ∀ (y3 : Int32) (y4 : Int32) (gy : nt_T), nt_Qz (fun z => bSe_awakeOf_24 nr ln x1 x2 z.1 z.2.1 z.2.2) n Qx (.inl (y3, y4, gy)) → nt_G p l e (nt_rm 7) s m args below meth c w A 0 0 Q 5 24 [(0, .ref (nt_a w 35)), (1, .int x1), (2, .int x2), (3, .int y3), (4, .int y4)] [] gy := fun y3 y4 gy q => ih y3 y4 gy q
    have hE0 : ∀ (y3 : Int32) (gy : nt_T), nt_Qz (fun z => bSe_awakeOf_24 nr ln x1 x2 z.1 z.2.1 z.2.2) n Qx (.inr (y3, gy)) → nt_G p l e (nt_rm 7) s m args below meth c w A 0 0 Q 5 79 [(0, .ref (nt_a w 35)), (1, .int x1), (2, .int x2), (3, .int y3)] [] gy := hE0
    generalize nt_Qz (fun z => bSe_awakeOf_24 nr ln x1 x2 z.1 z.2.1 z.2.2) n Qx = Qz at h hI hE0
    unfold bSe_awakeOf_24 at h
    refine nt_iload X dX3_awakeOf_24 4 rfl ?_
    refine nt_aload_n X dX3_awakeOf_26 rfl 0 rfl ?_
    refine nt_get X 35 inX3 (nt_lX hw (Nat.le_of_ble_eq_true rfl)) (nt_e35 hw) rfl (j := 0) (by decide) wd_283 (v := .ref (nt_a w 14)) rfl dX3_awakeOf_27 ?_
    refine nt_getN X 14 inX0 (nt_lP hw nt_p14 0 (by decide)) (nt_eP hw nt_p14) rfl (j := 0) (by decide) nt_nf11 (v := .ref (nt_a w 1)) rfl dX3_awakeOf_30 ?_
    refine nt_getN X 1 inX5 (nt_lX hw (Nat.le_of_ble_eq_true rfl)) (nt_e1 hw) rfl (j := 4) (by decide) nt_nf4 (v := .int (g 1 4)) rfl dX3_awakeOf_33 ?_
    obtain ⟨ht, hf⟩ := nt_R_if h
    refine nt_icmp_ge X 79 dX3_awakeOf_36 (by decide) (fun q4 => ?_) (fun q4 => ?_)
    · have h := ht q4
      refine nt_sub [0, 1, 2, 3] rfl ?_
      have h := nt_R_some h
      exact hE0 x3 g h
    · have h := hf q4
      refine nt_iload_n X dX3_awakeOf_39 rfl 3 rfl ?_
      refine nt_iload X dX3_awakeOf_40 4 rfl ?_
      refine nt_ishr X dX3_awakeOf_42 ?_
      refine nt_iconst X dX3_awakeOf_43 nt_ci_1 ?_
      refine nt_iand X dX3_awakeOf_44 ?_
      refine nt_iconst X dX3_awakeOf_45 nt_ci_1 ?_
      obtain ⟨ht, hf⟩ := nt_R_if h
      refine nt_icmp_ne X 73 dX3_awakeOf_46 (by decide) (fun q5 => ?_) (fun q5 => ?_)
      · have h := hf q5
        obtain ⟨v6, ev6, h⟩ := nt_R_lt h
        refine nt_iinc X v6 [(4, .int v6), (0, .ref (nt_a w 35)), (1, .int x1), (2, .int x2), (3, .int x3)] dX3_awakeOf_73 4 rfl (by rw [nt_ci_1]; exact ev6) (by decide) rfl ?_
        refine nt_goto X 24 dX3_awakeOf_76 (by decide) ?_
        refine nt_sub [1, 2, 3, 4, 0] rfl ?_
        have h := nt_R_some h
        exact hI x3 v6 g h
      · have h := ht q5
        refine nt_aload_n X dX3_awakeOf_49 rfl 0 rfl ?_
        refine nt_get X 35 inX3 (nt_lX hw (Nat.le_of_ble_eq_true rfl)) (nt_e35 hw) rfl (j := 0) (by decide) wd_283 (v := .ref (nt_a w 14)) rfl dX3_awakeOf_50 ?_
        refine nt_iconst X dX3_awakeOf_53 nt_ci_2 ?_
        refine nt_iload_n X dX3_awakeOf_54 rfl 1 rfl ?_
        refine nt_iload X dX3_awakeOf_55 4 rfl ?_
        refine nt_iload_n X dX3_awakeOf_57 rfl 2 rfl ?_
        obtain ⟨r7, g8, er7, h⟩ := nt_R_b2 h
        refine nt_cVNi X (As := [.int (2 : Int32), .int x1, .int x4, .int x2]) 14 (nt_lP hw nt_p14 0 (by decide)) (nt_eP hw nt_p14) rfl (cPp_value hw hR nt_p14 er7) wd_433 nt_nm47 wd_432 wd_1044 wd_13 hd_X0_value ⟨Nat.le_of_ble_eq_true rfl, Nat.le_of_ble_eq_true rfl⟩ ⟨Nat.le_refl 0, Nat.le_refl 0⟩ (Nat.le_of_ble_eq_true rfl) rfl dX3_awakeOf_58 ?_
        obtain ⟨ht, hf⟩ := nt_R_if h
        refine nt_if_eq X 73 dX3_awakeOf_61 (by decide) (fun q9 => ?_) (fun q9 => ?_)
        · have h := ht q9
          obtain ⟨v10, ev10, h⟩ := nt_R_lt h
          refine nt_iinc X v10 [(4, .int v10), (0, .ref (nt_a w 35)), (1, .int x1), (2, .int x2), (3, .int x3)] dX3_awakeOf_73 4 rfl (by rw [nt_ci_1]; exact ev10) (by decide) rfl ?_
          refine nt_goto X 24 dX3_awakeOf_76 (by decide) ?_
          refine nt_sub [1, 2, 3, 4, 0] rfl ?_
          have h := nt_R_some h
          exact hI x3 v10 g8 h
        · have h := hf q9
          refine nt_iload_n X dX3_awakeOf_64 rfl 3 rfl ?_
          refine nt_iconst X dX3_awakeOf_65 nt_ci_1 ?_
          refine nt_iload X dX3_awakeOf_66 4 rfl ?_
          refine nt_ishl X dX3_awakeOf_68 ?_
          refine nt_iconst X dX3_awakeOf_69 nt_ci_m1 ?_
          refine nt_ixor X dX3_awakeOf_70 ?_
          refine nt_iand X dX3_awakeOf_71 ?_
          obtain ⟨v11, ev11, h⟩ := nt_R_lt h
          refine nt_topi ev11 ?_
          refine nt_istore_n X [(3, .int v11), (0, .ref (nt_a w 35)), (1, .int x1), (2, .int x2), (4, .int x4)] dX3_awakeOf_72 rfl (by decide) rfl ?_
          obtain ⟨v12, ev12, h⟩ := nt_R_lt h
          refine nt_iinc X v12 [(4, .int v12), (3, .int v11), (0, .ref (nt_a w 35)), (1, .int x1), (2, .int x2)] dX3_awakeOf_73 4 rfl (by rw [nt_ci_1]; exact ev12) (by decide) rfl ?_
          refine nt_goto X 24 dX3_awakeOf_76 (by decide) ?_
          refine nt_sub [2, 3, 4, 1, 0] rfl ?_
          have h := nt_R_some h
          exact hI v11 v12 g8 h
def fSe_awakeOf (nr : Nat) (ln : Nat → Nat) (x1 : Int32) (x2 : Int32) (g : nt_T) : Option (Int32 × nt_T) :=
  nt_gd (nt_in x1 9) <| nt_b1 (fSh_all g) fun r2 => nt_lt ((g 17 (Int32.toNatClampNeg x1)) &&& r2) fun v3 => (nt_b1 (nt_it (fun z => bSe_awakeOf_24 nr ln x1 x2 z.1 z.2.1 z.2.2) nt_fu (v3, (0 : Int32), g)) fun z15 => match z15 with
  | (v13, g14) => some (v13, g14))
set_option maxRecDepth 100000 in
set_option maxHeartbeats 4000000 in
theorem cSe_awakeOf {l : Launch} {w : nt_w} (hw : nt_isX w) {nr : Nat} {ln : Nat → Nat}  (hR : nt_isR w nr ln) {x1 : Int32} {x2 : Int32} {g : nt_T} {r : Int32} {g2 : nt_T} (hf : fSe_awakeOf nr ln x1 x2 g = some (r, g2)) : nt_Mi l w yX3_awakeOf cX3_awakeOf 5 (some .int) 7 [.ref (nt_a w 35), .int x1, .int x2] g r g2 := by
  refine nt_Mi_of (by decide) (Nat.le_of_ble_eq_true rfl) (fun p e s m args below meth c A X => ?_)
  have X : nt_X cX3_awakeOf 5 RX3 (some .int) w A p s m args meth c := X
  have h : nt_R (fSe_awakeOf nr ln x1 x2 g) (fun z => z = (r, g2)) := ⟨_, hf, rfl⟩
  unfold fSe_awakeOf at h
  show nt_G p l e (nt_rm 7) s m args below meth c w A 0 0 (nt_Qi w A below args s r g2) 5 0 [(0, .ref (nt_a w 35)), (1, .int x1), (2, .int x2)] [] g
  refine nt_aload_n X dX3_awakeOf_0 rfl 0 rfl ?_
  refine nt_get X 35 inX3 (nt_lX hw (Nat.le_of_ble_eq_true rfl)) (nt_e35 hw) rfl (j := 0) (by decide) wd_283 (v := .ref (nt_a w 14)) rfl dX3_awakeOf_1 ?_
  refine nt_getN X 14 inX0 (nt_lP hw nt_p14 0 (by decide)) (nt_eP hw nt_p14) rfl (j := 4) (by decide) nt_nf14 (v := .ref (nt_a w 17)) rfl dX3_awakeOf_4 ?_
  refine nt_iload_n X dX3_awakeOf_7 rfl 1 rfl ?_
  obtain ⟨q1, h⟩ := nt_R_gd h
  refine nt_iald X 17 0 (nt_lP hw nt_p14 3 (by decide)) (nt_eP3 hw nt_p14) (nt_tX hw) q1 dX3_awakeOf_8 ?_
  refine nt_aload_n X dX3_awakeOf_9 rfl 0 rfl ?_
  refine nt_get X 35 inX3 (nt_lX hw (Nat.le_of_ble_eq_true rfl)) (nt_e35 hw) rfl (j := 0) (by decide) wd_283 (v := .ref (nt_a w 14)) rfl dX3_awakeOf_10 ?_
  refine nt_getN X 14 inX0 (nt_lP hw nt_p14 0 (by decide)) (nt_eP hw nt_p14) rfl (j := 0) (by decide) nt_nf11 (v := .ref (nt_a w 1)) rfl dX3_awakeOf_13 ?_
  obtain ⟨r2, er2, h⟩ := nt_R_b1 h
  refine nt_cVNi X (As := []) 1 (nt_lX hw (Nat.le_of_ble_eq_true rfl)) (nt_e1 hw) rfl (cSh_all hw er2) wd_430 nt_nm46 wd_429 wd_1043 wd_2 hd_X5_all ⟨Nat.le_of_ble_eq_true rfl, Nat.le_of_ble_eq_true rfl⟩ ⟨Nat.le_refl 0, Nat.le_refl 0⟩ (Nat.le_of_ble_eq_true rfl) rfl dX3_awakeOf_16 ?_
  refine nt_iand X dX3_awakeOf_19 ?_
  obtain ⟨v3, ev3, h⟩ := nt_R_lt h
  refine nt_topi ev3 ?_
  refine nt_istore_n X [(3, .int v3), (0, .ref (nt_a w 35)), (1, .int x1), (2, .int x2)] dX3_awakeOf_20 rfl (by decide) rfl ?_
  refine nt_iconst X dX3_awakeOf_21 nt_ci_0 ?_
  refine nt_istore X [(4, .int (0 : Int32)), (3, .int v3), (0, .ref (nt_a w 35)), (1, .int x1), (2, .int x2)] dX3_awakeOf_22 (by decide) rfl ?_
  obtain ⟨z15, hz15, h⟩ := nt_R_b1 h
  refine nt_sub [2, 3, 4, 1, 0] rfl ?_
  refine tbSe_awakeOf_24 hw  hR X x1 x2 (Qx := fun z => z = z15) (fun v13 g14 hq => ?_) nt_fu v3 (0 : Int32) g ⟨_, hz15, rfl⟩
  subst hq
  refine nt_iload_n X dX3_awakeOf_79 rfl 3 rfl ?_
  have h := nt_R_some h
  exact nt_iret X dX3_awakeOf_80 h
def bSe_prepare_36 (nr : Nat) (ln : Nat → Nat) (x1 : Int32) (x2 : Int32) (g : nt_T) : Option ((Int32 × nt_T) ⊕ ((nt_T))) :=
  (if (g 14 7) < x2 then
    (some (.inr g))
  else
    (nt_b2 (fSe_awakeOf nr ln x1 x2 g) fun r8 g9 => nt_gd (nt_in ((x1 * (9 : Int32)) + x2) 72) <| nt_lt (nt_st g9 39 (Int32.toNatClampNeg ((x1 * (9 : Int32)) + x2)) r8) fun g11 => nt_lt (x2 + (1 : Int32)) fun v12 => some (.inl (v12, g11))))
set_option maxRecDepth 100000 in
set_option maxHeartbeats 4000000 in
theorem tbSe_prepare_36 {p : Program} {l : Launch} {e : Env} {s : State} {m : MethodId} {args : Array Value} {below : List Frame} {meth : Method} {c : Code} {w : nt_w} {A : Nat → Prop} {nr : Nat} {ln : Nat → Nat} (hw : nt_isX w)  (hR : nt_isR w nr ln) {Q : State → Prop} (X : nt_X cX3_prepare 3 RX3 none w A p s m args meth c) (x1 : Int32)  {Qx : ((nt_T)) → Prop} (hE0 : ∀ (gy : nt_T), Qx gy → nt_G p l e (nt_rm 9) s m args below meth c w A 0 0 Q 3 70 [(0, .ref (nt_a w 35)), (1, .int x1)] [] gy) : ∀ (n : Nat) (x2 : Int32) (g : nt_T), nt_R (nt_it (fun z => bSe_prepare_36 nr ln x1 z.1 z.2) n (x2, g)) Qx → nt_G p l e (nt_rm 9) s m args below meth c w A 0 0 Q 3 36 [(0, .ref (nt_a w 35)), (1, .int x1), (2, .int x2)] [] g := by
  intro n
  induction n with
  | zero =>
    intro x2 g h
    exact nt_R_none h
  | succ n ih =>
    intro x2 g h
    have h : nt_R (bSe_prepare_36 nr ln x1 x2 g) (nt_Qz (fun z => bSe_prepare_36 nr ln x1 z.1 z.2) n Qx) := nt_R_it h
    have hI : ∀ (y2 : Int32) (gy : nt_T), nt_Qz (fun z => bSe_prepare_36 nr ln x1 z.1 z.2) n Qx (.inl (y2, gy)) → nt_G p l e (nt_rm 9) s m args below meth c w A 0 0 Q 3 36 [(0, .ref (nt_a w 35)), (1, .int x1), (2, .int y2)] [] gy := fun y2 gy q => ih y2 gy q
    have hE0 : ∀ (gy : nt_T), nt_Qz (fun z => bSe_prepare_36 nr ln x1 z.1 z.2) n Qx (.inr gy) → nt_G p l e (nt_rm 9) s m args below meth c w A 0 0 Q 3 70 [(0, .ref (nt_a w 35)), (1, .int x1)] [] gy := hE0
    generalize nt_Qz (fun z => bSe_prepare_36 nr ln x1 z.1 z.2) n Qx = Qz at h hI hE0
    unfold bSe_prepare_36 at h
    refine nt_iload_n X dX3_prepare_36 rfl 2 rfl ?_
    refine nt_aload_n X dX3_prepare_37 rfl 0 rfl ?_
    refine nt_get X 35 inX3 (nt_lX hw (Nat.le_of_ble_eq_true rfl)) (nt_e35 hw) rfl (j := 0) (by decide) wd_283 (v := .ref (nt_a w 14)) rfl dX3_prepare_38 ?_
    refine nt_getN X 14 inX0 (nt_lP hw nt_p14 0 (by decide)) (nt_eP hw nt_p14) rfl (j := 7) (by decide) nt_nf17 (v := .int (g 14 7)) rfl dX3_prepare_41 ?_
    obtain ⟨ht, hf⟩ := nt_R_if h
    refine nt_icmp_gt X 70 dX3_prepare_44 (by decide) (fun q7 => ?_) (fun q7 => ?_)
    · have h := ht q7
      refine nt_sub [0, 1] rfl ?_
      have h := nt_R_some h
      exact hE0 g h
    · have h := hf q7
      refine nt_aload_n X dX3_prepare_47 rfl 0 rfl ?_
      refine nt_get X 35 inX3 (nt_lX hw (Nat.le_of_ble_eq_true rfl)) (nt_e35 hw) rfl (j := 5) (by decide) wd_288 (v := .ref (nt_a w 39)) rfl dX3_prepare_48 ?_
      refine nt_iload_n X dX3_prepare_51 rfl 1 rfl ?_
      refine nt_bipush X dX3_prepare_52 nt_cb_9 ?_
      refine nt_imul X dX3_prepare_54 ?_
      refine nt_iload_n X dX3_prepare_55 rfl 2 rfl ?_
      refine nt_iadd X dX3_prepare_56 ?_
      refine nt_aload_n X dX3_prepare_57 rfl 0 rfl ?_
      refine nt_iload_n X dX3_prepare_58 rfl 1 rfl ?_
      refine nt_iload_n X dX3_prepare_59 rfl 2 rfl ?_
      obtain ⟨r8, g9, er8, h⟩ := nt_R_b2 h
      refine nt_cVi X (As := [.int x1, .int x2]) 35 (nt_lX hw (Nat.le_of_ble_eq_true rfl)) (nt_e35 hw) rfl (cSe_awakeOf hw hR er8) wd_521 wd_519 wd_520 wd_1061 wd_14 rfl hd_X3_awakeOf ⟨Nat.le_of_ble_eq_true rfl, Nat.le_of_ble_eq_true rfl⟩ ⟨Nat.le_refl 0, Nat.le_refl 0⟩ (Nat.le_of_ble_eq_true rfl) rfl dX3_prepare_60 ?_
      obtain ⟨q10, h⟩ := nt_R_gd h
      refine nt_iast X 39 0 (nt_lX hw (Nat.le_of_ble_eq_true rfl)) (nt_e39 hw) (nt_tX hw) q10 dX3_prepare_63 ?_
      obtain ⟨g11, eg11, h⟩ := nt_R_lt h
      refine nt_geq eg11 ?_
      obtain ⟨v12, ev12, h⟩ := nt_R_lt h
      refine nt_iinc X v12 [(2, .int v12), (0, .ref (nt_a w 35)), (1, .int x1)] dX3_prepare_64 2 rfl (by rw [nt_ci_1]; exact ev12) (by decide) rfl ?_
      refine nt_goto X 36 dX3_prepare_67 (by decide) ?_
      refine nt_sub [1, 2, 0] rfl ?_
      have h := nt_R_some h
      exact hI v12 g11 h
def bSe_prepare_2 (nr : Nat) (ln : Nat → Nat) (x1 : Int32) (g : nt_T) : Option ((Int32 × nt_T) ⊕ ((nt_T))) :=
  (if (g 14 7) ≤ x1 then
    (some (.inr g))
  else
    (nt_gd (nt_in x1 8) <| nt_lt (nt_st g 36 (Int32.toNatClampNeg x1) (0 : Int32)) fun g3 => nt_b1 (fPp_knows 14 x1 g3) fun r4 => nt_gd (nt_in x1 8) <| nt_lt (nt_st g3 38 (Int32.toNatClampNeg x1) r4) fun g6 => (nt_b1 (nt_it (fun z => bSe_prepare_36 nr ln x1 z.1 z.2) nt_fu ((2 : Int32), g6)) fun g13 => nt_lt (x1 + (1 : Int32)) fun v14 => some (.inl (v14, g13)))))
set_option maxRecDepth 100000 in
set_option maxHeartbeats 4000000 in
theorem tbSe_prepare_2 {p : Program} {l : Launch} {e : Env} {s : State} {m : MethodId} {args : Array Value} {below : List Frame} {meth : Method} {c : Code} {w : nt_w} {A : Nat → Prop} {nr : Nat} {ln : Nat → Nat} (hw : nt_isX w)  (hR : nt_isR w nr ln) {Q : State → Prop} (X : nt_X cX3_prepare 3 RX3 none w A p s m args meth c)  {Qx : ((nt_T)) → Prop} (hE0 : ∀ (gy : nt_T), Qx gy → nt_G p l e (nt_rm 9) s m args below meth c w A 0 0 Q 3 76 [(0, .ref (nt_a w 35))] [] gy) : ∀ (n : Nat) (x1 : Int32) (g : nt_T), nt_R (nt_it (fun z => bSe_prepare_2 nr ln z.1 z.2) n (x1, g)) Qx → nt_G p l e (nt_rm 9) s m args below meth c w A 0 0 Q 3 2 [(0, .ref (nt_a w 35)), (1, .int x1)] [] g := by
  intro n
  induction n with
  | zero =>
    intro x1 g h
    exact nt_R_none h
  | succ n ih =>
    intro x1 g h
    have h : nt_R (bSe_prepare_2 nr ln x1 g) (nt_Qz (fun z => bSe_prepare_2 nr ln z.1 z.2) n Qx) := nt_R_it h
    have hI : ∀ (y1 : Int32) (gy : nt_T), nt_Qz (fun z => bSe_prepare_2 nr ln z.1 z.2) n Qx (.inl (y1, gy)) → nt_G p l e (nt_rm 9) s m args below meth c w A 0 0 Q 3 2 [(0, .ref (nt_a w 35)), (1, .int y1)] [] gy := fun y1 gy q => ih y1 gy q
    have hE0 : ∀ (gy : nt_T), nt_Qz (fun z => bSe_prepare_2 nr ln z.1 z.2) n Qx (.inr gy) → nt_G p l e (nt_rm 9) s m args below meth c w A 0 0 Q 3 76 [(0, .ref (nt_a w 35))] [] gy := hE0
    generalize nt_Qz (fun z => bSe_prepare_2 nr ln z.1 z.2) n Qx = Qz at h hI hE0
    unfold bSe_prepare_2 at h
    refine nt_iload_n X dX3_prepare_2 rfl 1 rfl ?_
    refine nt_aload_n X dX3_prepare_3 rfl 0 rfl ?_
    refine nt_get X 35 inX3 (nt_lX hw (Nat.le_of_ble_eq_true rfl)) (nt_e35 hw) rfl (j := 0) (by decide) wd_283 (v := .ref (nt_a w 14)) rfl dX3_prepare_4 ?_
    refine nt_getN X 14 inX0 (nt_lP hw nt_p14 0 (by decide)) (nt_eP hw nt_p14) rfl (j := 7) (by decide) nt_nf17 (v := .int (g 14 7)) rfl dX3_prepare_7 ?_
    obtain ⟨ht, hf⟩ := nt_R_if h
    refine nt_icmp_ge X 76 dX3_prepare_10 (by decide) (fun q1 => ?_) (fun q1 => ?_)
    · have h := ht q1
      refine nt_sub [0] rfl ?_
      have h := nt_R_some h
      exact hE0 g h
    · have h := hf q1
      refine nt_aload_n X dX3_prepare_13 rfl 0 rfl ?_
      refine nt_get X 35 inX3 (nt_lX hw (Nat.le_of_ble_eq_true rfl)) (nt_e35 hw) rfl (j := 1) (by decide) wd_284 (v := .ref (nt_a w 36)) rfl dX3_prepare_14 ?_
      refine nt_iload_n X dX3_prepare_17 rfl 1 rfl ?_
      refine nt_iconst X dX3_prepare_18 nt_ci_0 ?_
      obtain ⟨q2, h⟩ := nt_R_gd h
      refine nt_iast X 36 0 (nt_lX hw (Nat.le_of_ble_eq_true rfl)) (nt_e36 hw) (nt_tX hw) q2 dX3_prepare_19 ?_
      obtain ⟨g3, eg3, h⟩ := nt_R_lt h
      refine nt_geq eg3 ?_
      refine nt_aload_n X dX3_prepare_20 rfl 0 rfl ?_
      refine nt_get X 35 inX3 (nt_lX hw (Nat.le_of_ble_eq_true rfl)) (nt_e35 hw) rfl (j := 4) (by decide) wd_287 (v := .ref (nt_a w 38)) rfl dX3_prepare_21 ?_
      refine nt_iload_n X dX3_prepare_24 rfl 1 rfl ?_
      refine nt_aload_n X dX3_prepare_25 rfl 0 rfl ?_
      refine nt_get X 35 inX3 (nt_lX hw (Nat.le_of_ble_eq_true rfl)) (nt_e35 hw) rfl (j := 0) (by decide) wd_283 (v := .ref (nt_a w 14)) rfl dX3_prepare_26 ?_
      refine nt_iload_n X dX3_prepare_29 rfl 1 rfl ?_
      obtain ⟨r4, er4, h⟩ := nt_R_b1 h
      refine nt_cVNi X (As := [.int x1]) 14 (nt_lP hw nt_p14 0 (by decide)) (nt_eP hw nt_p14) rfl (cPp_knows hw nt_p14 er4) wd_394 nt_nm45 wd_393 wd_1035 wd_13 hd_X0_knows ⟨Nat.le_of_ble_eq_true rfl, Nat.le_of_ble_eq_true rfl⟩ ⟨Nat.le_refl 0, Nat.le_refl 0⟩ (Nat.le_of_ble_eq_true rfl) rfl dX3_prepare_30 ?_
      obtain ⟨q5, h⟩ := nt_R_gd h
      refine nt_iast X 38 0 (nt_lX hw (Nat.le_of_ble_eq_true rfl)) (nt_e38 hw) (nt_tX hw) q5 dX3_prepare_33 ?_
      obtain ⟨g6, eg6, h⟩ := nt_R_lt h
      refine nt_geq eg6 ?_
      refine nt_iconst X dX3_prepare_34 nt_ci_2 ?_
      refine nt_istore_n X [(2, .int (2 : Int32)), (0, .ref (nt_a w 35)), (1, .int x1)] dX3_prepare_35 rfl (by decide) rfl ?_
      obtain ⟨z15, hz15, h⟩ := nt_R_b1 h
      refine nt_sub [1, 2, 0] rfl ?_
      refine tbSe_prepare_36 hw  hR X x1 (Qx := fun z => z = z15) (fun g13 hq => ?_) nt_fu (2 : Int32) g6 ⟨_, hz15, rfl⟩
      subst hq
      obtain ⟨v14, ev14, h⟩ := nt_R_lt h
      refine nt_iinc X v14 [(1, .int v14), (0, .ref (nt_a w 35))] dX3_prepare_70 1 rfl (by rw [nt_ci_1]; exact ev14) (by decide) rfl ?_
      refine nt_goto X 2 dX3_prepare_73 (by decide) ?_
      refine nt_sub [1, 0] rfl ?_
      have h := nt_R_some h
      exact hI v14 g13 h
def fSe_prepare (nr : Nat) (ln : Nat → Nat) (g : nt_T) : Option (nt_T) :=
  (nt_b1 (nt_it (fun z => bSe_prepare_2 nr ln z.1 z.2) nt_fu ((0 : Int32), g)) fun g16 => some g16)
set_option maxRecDepth 100000 in
set_option maxHeartbeats 4000000 in
theorem cSe_prepare {l : Launch} {w : nt_w} (hw : nt_isX w) {nr : Nat} {ln : Nat → Nat}  (hR : nt_isR w nr ln) {g : nt_T} {g2 : nt_T} (hf : fSe_prepare nr ln g = some g2) : nt_Mv l w yX3_prepare cX3_prepare 3 none 9 [.ref (nt_a w 35)] g g2 := by
  refine nt_Mv_of (by decide) (Nat.le_of_ble_eq_true rfl) (fun p e s m args below meth c A X => ?_)
  have X : nt_X cX3_prepare 3 RX3 none w A p s m args meth c := X
  have h : nt_R (fSe_prepare nr ln g) (fun z => z = g2) := ⟨_, hf, rfl⟩
  unfold fSe_prepare at h
  show nt_G p l e (nt_rm 9) s m args below meth c w A 0 0 (nt_Qv w A below args s g2) 3 0 [(0, .ref (nt_a w 35))] [] g
  refine nt_iconst X dX3_prepare_0 nt_ci_0 ?_
  refine nt_istore_n X [(1, .int (0 : Int32)), (0, .ref (nt_a w 35))] dX3_prepare_1 rfl (by decide) rfl ?_
  obtain ⟨z17, hz17, h⟩ := nt_R_b1 h
  refine nt_sub [1, 0] rfl ?_
  refine tbSe_prepare_2 hw  hR X  (Qx := fun z => z = z17) (fun g16 hq => ?_) nt_fu (0 : Int32) g ⟨_, hz17, rfl⟩
  subst hq
  have h := nt_R_some h
  exact nt_vret X dX3_prepare_76 h
def bSe_fillHouses_2 (x1 : Int32) (x2 : Int32) (g : nt_T) : Option ((Int32 × nt_T) ⊕ ((nt_T))) :=
  (if x1 ≤ x2 then
    (some (.inr g))
  else
    (nt_gd (nt_in x2 4) <| nt_lt (nt_st g 40 (Int32.toNatClampNeg x2) (0 : Int32)) fun g3 => nt_gd (nt_in x2 4) <| nt_lt (nt_st g3 41 (Int32.toNatClampNeg x2) (0 : Int32)) fun g5 => nt_gd (nt_in x2 4) <| nt_lt (nt_st g5 42 (Int32.toNatClampNeg x2) (0 : Int32)) fun g7 => nt_lt (x2 + (1 : Int32)) fun v8 => some (.inl (v8, g7))))
set_option maxRecDepth 100000 in
set_option maxHeartbeats 4000000 in
theorem tbSe_fillHouses_2 {p : Program} {l : Launch} {e : Env} {s : State} {m : MethodId} {args : Array Value} {below : List Frame} {meth : Method} {c : Code} {w : nt_w} {A : Nat → Prop} (hw : nt_isX w) {Q : State → Prop} (X : nt_X cX3_fillHouses 4 RX3 none w A p s m args meth c) (x1 : Int32)  {Qx : ((nt_T)) → Prop} (hE0 : ∀ (gy : nt_T), Qx gy → nt_G p l e (nt_rm 1) s m args below meth c w A 0 0 Q 4 34 [(0, .ref (nt_a w 35)), (1, .int x1)] [] gy) : ∀ (n : Nat) (x2 : Int32) (g : nt_T), nt_R (nt_it (fun z => bSe_fillHouses_2 x1 z.1 z.2) n (x2, g)) Qx → nt_G p l e (nt_rm 1) s m args below meth c w A 0 0 Q 4 2 [(0, .ref (nt_a w 35)), (1, .int x1), (2, .int x2)] [] g := by
  intro n
  induction n with
  | zero =>
    intro x2 g h
    exact nt_R_none h
  | succ n ih =>
    intro x2 g h
    have h : nt_R (bSe_fillHouses_2 x1 x2 g) (nt_Qz (fun z => bSe_fillHouses_2 x1 z.1 z.2) n Qx) := nt_R_it h
    have hI : ∀ (y2 : Int32) (gy : nt_T), nt_Qz (fun z => bSe_fillHouses_2 x1 z.1 z.2) n Qx (.inl (y2, gy)) → nt_G p l e (nt_rm 1) s m args below meth c w A 0 0 Q 4 2 [(0, .ref (nt_a w 35)), (1, .int x1), (2, .int y2)] [] gy := fun y2 gy q => ih y2 gy q
    have hE0 : ∀ (gy : nt_T), nt_Qz (fun z => bSe_fillHouses_2 x1 z.1 z.2) n Qx (.inr gy) → nt_G p l e (nt_rm 1) s m args below meth c w A 0 0 Q 4 34 [(0, .ref (nt_a w 35)), (1, .int x1)] [] gy := hE0
    generalize nt_Qz (fun z => bSe_fillHouses_2 x1 z.1 z.2) n Qx = Qz at h hI hE0
    unfold bSe_fillHouses_2 at h
    refine nt_iload_n X dX3_fillHouses_2 rfl 2 rfl ?_
    refine nt_iload_n X dX3_fillHouses_3 rfl 1 rfl ?_
    obtain ⟨ht, hf⟩ := nt_R_if h
    refine nt_icmp_ge X 34 dX3_fillHouses_4 (by decide) (fun q1 => ?_) (fun q1 => ?_)
    · have h := ht q1
      refine nt_sub [0, 1] rfl ?_
      have h := nt_R_some h
      exact hE0 g h
    · have h := hf q1
      refine nt_aload_n X dX3_fillHouses_7 rfl 0 rfl ?_
      refine nt_get X 35 inX3 (nt_lX hw (Nat.le_of_ble_eq_true rfl)) (nt_e35 hw) rfl (j := 6) (by decide) wd_289 (v := .ref (nt_a w 40)) rfl dX3_fillHouses_8 ?_
      refine nt_iload_n X dX3_fillHouses_11 rfl 2 rfl ?_
      refine nt_iconst X dX3_fillHouses_12 nt_ci_0 ?_
      obtain ⟨q2, h⟩ := nt_R_gd h
      refine nt_iast X 40 0 (nt_lX hw (Nat.le_of_ble_eq_true rfl)) (nt_e40 hw) (nt_tX hw) q2 dX3_fillHouses_13 ?_
      obtain ⟨g3, eg3, h⟩ := nt_R_lt h
      refine nt_geq eg3 ?_
      refine nt_aload_n X dX3_fillHouses_14 rfl 0 rfl ?_
      refine nt_get X 35 inX3 (nt_lX hw (Nat.le_of_ble_eq_true rfl)) (nt_e35 hw) rfl (j := 7) (by decide) wd_290 (v := .ref (nt_a w 41)) rfl dX3_fillHouses_15 ?_
      refine nt_iload_n X dX3_fillHouses_18 rfl 2 rfl ?_
      refine nt_iconst X dX3_fillHouses_19 nt_ci_0 ?_
      obtain ⟨q4, h⟩ := nt_R_gd h
      refine nt_iast X 41 0 (nt_lX hw (Nat.le_of_ble_eq_true rfl)) (nt_e41 hw) (nt_tX hw) q4 dX3_fillHouses_20 ?_
      obtain ⟨g5, eg5, h⟩ := nt_R_lt h
      refine nt_geq eg5 ?_
      refine nt_aload_n X dX3_fillHouses_21 rfl 0 rfl ?_
      refine nt_get X 35 inX3 (nt_lX hw (Nat.le_of_ble_eq_true rfl)) (nt_e35 hw) rfl (j := 8) (by decide) wd_291 (v := .ref (nt_a w 42)) rfl dX3_fillHouses_22 ?_
      refine nt_iload_n X dX3_fillHouses_25 rfl 2 rfl ?_
      refine nt_iconst X dX3_fillHouses_26 nt_ci_0 ?_
      obtain ⟨q6, h⟩ := nt_R_gd h
      refine nt_iast X 42 0 (nt_lX hw (Nat.le_of_ble_eq_true rfl)) (nt_e42 hw) (nt_tX hw) q6 dX3_fillHouses_27 ?_
      obtain ⟨g7, eg7, h⟩ := nt_R_lt h
      refine nt_geq eg7 ?_
      obtain ⟨v8, ev8, h⟩ := nt_R_lt h
      refine nt_iinc X v8 [(2, .int v8), (0, .ref (nt_a w 35)), (1, .int x1)] dX3_fillHouses_28 2 rfl (by rw [nt_ci_1]; exact ev8) (by decide) rfl ?_
      refine nt_goto X 2 dX3_fillHouses_31 (by decide) ?_
      refine nt_sub [1, 2, 0] rfl ?_
      have h := nt_R_some h
      exact hI v8 g7 h
def bSe_fillHouses_36 (x2 : Int32) (g : nt_T) : Option ((Int32 × nt_T) ⊕ ((nt_T))) :=
  (if (g 14 7) ≤ x2 then
    (some (.inr g))
  else
    (nt_gd (nt_in x2 8) <| nt_lt (g 36 (Int32.toNatClampNeg x2)) fun v12 => nt_gd (nt_in v12 4) <| nt_gd (nt_in v12 4) <| nt_lt (nt_st g 40 (Int32.toNatClampNeg v12) ((g 40 (Int32.toNatClampNeg v12)) + (1 : Int32))) fun g15 => nt_gd (nt_in v12 4) <| nt_gd (nt_in v12 4) <| nt_gd (nt_in x2 8) <| nt_gd (nt_in v12 4) <| nt_lt (nt_st g15 42 (Int32.toNatClampNeg v12) ((g15 42 (Int32.toNatClampNeg v12)) ||| ((g15 41 (Int32.toNatClampNeg v12)) &&& (g15 38 (Int32.toNatClampNeg x2))))) fun g20 => nt_gd (nt_in v12 4) <| nt_gd (nt_in x2 8) <| nt_gd (nt_in v12 4) <| nt_lt (nt_st g20 41 (Int32.toNatClampNeg v12) ((g20 41 (Int32.toNatClampNeg v12)) ||| (g20 38 (Int32.toNatClampNeg x2)))) fun g24 => nt_lt (x2 + (1 : Int32)) fun v25 => some (.inl (v25, g24))))
set_option maxRecDepth 100000 in
set_option maxHeartbeats 4000000 in
theorem tbSe_fillHouses_36 {p : Program} {l : Launch} {e : Env} {s : State} {m : MethodId} {args : Array Value} {below : List Frame} {meth : Method} {c : Code} {w : nt_w} {A : Nat → Prop} (hw : nt_isX w) {Q : State → Prop} (X : nt_X cX3_fillHouses 4 RX3 none w A p s m args meth c)  {Qx : ((nt_T)) → Prop} (hE0 : ∀ (gy : nt_T), Qx gy → nt_G p l e (nt_rm 1) s m args below meth c w A 0 0 Q 4 107 [(0, .ref (nt_a w 35))] [] gy) : ∀ (n : Nat) (x2 : Int32) (g : nt_T), nt_R (nt_it (fun z => bSe_fillHouses_36 z.1 z.2) n (x2, g)) Qx → nt_G p l e (nt_rm 1) s m args below meth c w A 0 0 Q 4 36 [(0, .ref (nt_a w 35)), (2, .int x2)] [] g := by
  intro n
  induction n with
  | zero =>
    intro x2 g h
    exact nt_R_none h
  | succ n ih =>
    intro x2 g h
    have h : nt_R (bSe_fillHouses_36 x2 g) (nt_Qz (fun z => bSe_fillHouses_36 z.1 z.2) n Qx) := nt_R_it h
    have hI : ∀ (y2 : Int32) (gy : nt_T), nt_Qz (fun z => bSe_fillHouses_36 z.1 z.2) n Qx (.inl (y2, gy)) → nt_G p l e (nt_rm 1) s m args below meth c w A 0 0 Q 4 36 [(0, .ref (nt_a w 35)), (2, .int y2)] [] gy := fun y2 gy q => ih y2 gy q
    have hE0 : ∀ (gy : nt_T), nt_Qz (fun z => bSe_fillHouses_36 z.1 z.2) n Qx (.inr gy) → nt_G p l e (nt_rm 1) s m args below meth c w A 0 0 Q 4 107 [(0, .ref (nt_a w 35))] [] gy := hE0
    generalize nt_Qz (fun z => bSe_fillHouses_36 z.1 z.2) n Qx = Qz at h hI hE0
    unfold bSe_fillHouses_36 at h
    refine nt_iload_n X dX3_fillHouses_36 rfl 1 rfl ?_
    refine nt_aload_n X dX3_fillHouses_37 rfl 0 rfl ?_
    refine nt_get X 35 inX3 (nt_lX hw (Nat.le_of_ble_eq_true rfl)) (nt_e35 hw) rfl (j := 0) (by decide) wd_283 (v := .ref (nt_a w 14)) rfl dX3_fillHouses_38 ?_
    refine nt_getN X 14 inX0 (nt_lP hw nt_p14 0 (by decide)) (nt_eP hw nt_p14) rfl (j := 7) (by decide) nt_nf17 (v := .int (g 14 7)) rfl dX3_fillHouses_41 ?_
    obtain ⟨ht, hf⟩ := nt_R_if h
    refine nt_icmp_ge X 107 dX3_fillHouses_44 (by decide) (fun q10 => ?_) (fun q10 => ?_)
    · have h := ht q10
      refine nt_sub [0] rfl ?_
      have h := nt_R_some h
      exact hE0 g h
    · have h := hf q10
      refine nt_aload_n X dX3_fillHouses_47 rfl 0 rfl ?_
      refine nt_get X 35 inX3 (nt_lX hw (Nat.le_of_ble_eq_true rfl)) (nt_e35 hw) rfl (j := 1) (by decide) wd_284 (v := .ref (nt_a w 36)) rfl dX3_fillHouses_48 ?_
      refine nt_iload_n X dX3_fillHouses_51 rfl 1 rfl ?_
      obtain ⟨q11, h⟩ := nt_R_gd h
      refine nt_iald X 36 0 (nt_lX hw (Nat.le_of_ble_eq_true rfl)) (nt_e36 hw) (nt_tX hw) q11 dX3_fillHouses_52 ?_
      obtain ⟨v12, ev12, h⟩ := nt_R_lt h
      refine nt_topi ev12 ?_
      refine nt_istore_n X [(3, .int v12), (0, .ref (nt_a w 35)), (2, .int x2)] dX3_fillHouses_53 rfl (by decide) rfl ?_
      refine nt_aload_n X dX3_fillHouses_54 rfl 1 rfl ?_
      refine nt_get X 35 inX3 (nt_lX hw (Nat.le_of_ble_eq_true rfl)) (nt_e35 hw) rfl (j := 6) (by decide) wd_289 (v := .ref (nt_a w 40)) rfl dX3_fillHouses_55 ?_
      refine nt_iload_n X dX3_fillHouses_58 rfl 0 rfl ?_
      refine nt_dup2 X dX3_fillHouses_59 rfl rfl ?_
      obtain ⟨q13, h⟩ := nt_R_gd h
      refine nt_iald X 40 0 (nt_lX hw (Nat.le_of_ble_eq_true rfl)) (nt_e40 hw) (nt_tX hw) q13 dX3_fillHouses_60 ?_
      refine nt_iconst X dX3_fillHouses_61 nt_ci_1 ?_
      refine nt_iadd X dX3_fillHouses_62 ?_
      obtain ⟨q14, h⟩ := nt_R_gd h
      refine nt_iast X 40 0 (nt_lX hw (Nat.le_of_ble_eq_true rfl)) (nt_e40 hw) (nt_tX hw) q14 dX3_fillHouses_63 ?_
      obtain ⟨g15, eg15, h⟩ := nt_R_lt h
      refine nt_geq eg15 ?_
      refine nt_aload_n X dX3_fillHouses_64 rfl 1 rfl ?_
      refine nt_get X 35 inX3 (nt_lX hw (Nat.le_of_ble_eq_true rfl)) (nt_e35 hw) rfl (j := 8) (by decide) wd_291 (v := .ref (nt_a w 42)) rfl dX3_fillHouses_65 ?_
      refine nt_iload_n X dX3_fillHouses_68 rfl 0 rfl ?_
      refine nt_dup2 X dX3_fillHouses_69 rfl rfl ?_
      obtain ⟨q16, h⟩ := nt_R_gd h
      refine nt_iald X 42 0 (nt_lX hw (Nat.le_of_ble_eq_true rfl)) (nt_e42 hw) (nt_tX hw) q16 dX3_fillHouses_70 ?_
      refine nt_aload_n X dX3_fillHouses_71 rfl 1 rfl ?_
      refine nt_get X 35 inX3 (nt_lX hw (Nat.le_of_ble_eq_true rfl)) (nt_e35 hw) rfl (j := 7) (by decide) wd_290 (v := .ref (nt_a w 41)) rfl dX3_fillHouses_72 ?_
      refine nt_iload_n X dX3_fillHouses_75 rfl 0 rfl ?_
      obtain ⟨q17, h⟩ := nt_R_gd h
      refine nt_iald X 41 0 (nt_lX hw (Nat.le_of_ble_eq_true rfl)) (nt_e41 hw) (nt_tX hw) q17 dX3_fillHouses_76 ?_
      refine nt_aload_n X dX3_fillHouses_77 rfl 1 rfl ?_
      refine nt_get X 35 inX3 (nt_lX hw (Nat.le_of_ble_eq_true rfl)) (nt_e35 hw) rfl (j := 4) (by decide) wd_287 (v := .ref (nt_a w 38)) rfl dX3_fillHouses_78 ?_
      refine nt_iload_n X dX3_fillHouses_81 rfl 2 rfl ?_
      obtain ⟨q18, h⟩ := nt_R_gd h
      refine nt_iald X 38 0 (nt_lX hw (Nat.le_of_ble_eq_true rfl)) (nt_e38 hw) (nt_tX hw) q18 dX3_fillHouses_82 ?_
      refine nt_iand X dX3_fillHouses_83 ?_
      refine nt_ior X dX3_fillHouses_84 ?_
      obtain ⟨q19, h⟩ := nt_R_gd h
      refine nt_iast X 42 0 (nt_lX hw (Nat.le_of_ble_eq_true rfl)) (nt_e42 hw) (nt_tX hw) q19 dX3_fillHouses_85 ?_
      obtain ⟨g20, eg20, h⟩ := nt_R_lt h
      refine nt_geq eg20 ?_
      refine nt_aload_n X dX3_fillHouses_86 rfl 1 rfl ?_
      refine nt_get X 35 inX3 (nt_lX hw (Nat.le_of_ble_eq_true rfl)) (nt_e35 hw) rfl (j := 7) (by decide) wd_290 (v := .ref (nt_a w 41)) rfl dX3_fillHouses_87 ?_
      refine nt_iload_n X dX3_fillHouses_90 rfl 0 rfl ?_
      refine nt_dup2 X dX3_fillHouses_91 rfl rfl ?_
      obtain ⟨q21, h⟩ := nt_R_gd h
      refine nt_iald X 41 0 (nt_lX hw (Nat.le_of_ble_eq_true rfl)) (nt_e41 hw) (nt_tX hw) q21 dX3_fillHouses_92 ?_
      refine nt_aload_n X dX3_fillHouses_93 rfl 1 rfl ?_
      refine nt_get X 35 inX3 (nt_lX hw (Nat.le_of_ble_eq_true rfl)) (nt_e35 hw) rfl (j := 4) (by decide) wd_287 (v := .ref (nt_a w 38)) rfl dX3_fillHouses_94 ?_
      refine nt_iload_n X dX3_fillHouses_97 rfl 2 rfl ?_
      obtain ⟨q22, h⟩ := nt_R_gd h
      refine nt_iald X 38 0 (nt_lX hw (Nat.le_of_ble_eq_true rfl)) (nt_e38 hw) (nt_tX hw) q22 dX3_fillHouses_98 ?_
      refine nt_ior X dX3_fillHouses_99 ?_
      obtain ⟨q23, h⟩ := nt_R_gd h
      refine nt_iast X 41 0 (nt_lX hw (Nat.le_of_ble_eq_true rfl)) (nt_e41 hw) (nt_tX hw) q23 dX3_fillHouses_100 ?_
      obtain ⟨g24, eg24, h⟩ := nt_R_lt h
      refine nt_geq eg24 ?_
      obtain ⟨v25, ev25, h⟩ := nt_R_lt h
      refine nt_iinc X v25 [(2, .int v25), (3, .int v12), (0, .ref (nt_a w 35))] dX3_fillHouses_101 2 rfl (by rw [nt_ci_1]; exact ev25) (by decide) rfl ?_
      refine nt_goto X 36 dX3_fillHouses_104 (by decide) ?_
      refine nt_sub [2, 0] rfl ?_
      have h := nt_R_some h
      exact hI v25 g24 h
def fSe_fillHouses (x1 : Int32) (g : nt_T) : Option (nt_T) :=
  (nt_b1 (nt_it (fun z => bSe_fillHouses_2 x1 z.1 z.2) nt_fu ((0 : Int32), g)) fun g9 => (nt_b1 (nt_it (fun z => bSe_fillHouses_36 z.1 z.2) nt_fu ((0 : Int32), g9)) fun g26 => some g26))
set_option maxRecDepth 100000 in
set_option maxHeartbeats 4000000 in
theorem cSe_fillHouses {l : Launch} {w : nt_w} (hw : nt_isX w) {x1 : Int32} {g : nt_T} {g2 : nt_T} (hf : fSe_fillHouses x1 g = some g2) : nt_Mv l w yX3_fillHouses cX3_fillHouses 4 none 1 [.ref (nt_a w 35), .int x1] g g2 := by
  refine nt_Mv_of (by decide) (Nat.le_of_ble_eq_true rfl) (fun p e s m args below meth c A X => ?_)
  have X : nt_X cX3_fillHouses 4 RX3 none w A p s m args meth c := X
  have h : nt_R (fSe_fillHouses x1 g) (fun z => z = g2) := ⟨_, hf, rfl⟩
  unfold fSe_fillHouses at h
  show nt_G p l e (nt_rm 1) s m args below meth c w A 0 0 (nt_Qv w A below args s g2) 4 0 [(0, .ref (nt_a w 35)), (1, .int x1)] [] g
  refine nt_iconst X dX3_fillHouses_0 nt_ci_0 ?_
  refine nt_istore_n X [(2, .int (0 : Int32)), (0, .ref (nt_a w 35)), (1, .int x1)] dX3_fillHouses_1 rfl (by decide) rfl ?_
  obtain ⟨z28, hz28, h⟩ := nt_R_b1 h
  refine nt_sub [1, 2, 0] rfl ?_
  refine tbSe_fillHouses_2 hw X x1 (Qx := fun z => z = z28) (fun g9 hq => ?_) nt_fu (0 : Int32) g ⟨_, hz28, rfl⟩
  subst hq
  refine nt_iconst X dX3_fillHouses_34 nt_ci_0 ?_
  refine nt_istore_n X [(2, .int (0 : Int32)), (0, .ref (nt_a w 35)), (1, .int x1)] dX3_fillHouses_35 rfl (by decide) rfl ?_
  obtain ⟨z27, hz27, h⟩ := nt_R_b1 h
  refine nt_sub [1, 0] rfl ?_
  refine tbSe_fillHouses_36 hw X  (Qx := fun z => z = z27) (fun g26 hq => ?_) nt_fu (0 : Int32) g9 ⟨_, hz27, rfl⟩
  subst hq
  have h := nt_R_some h
  exact nt_vret X dX3_fillHouses_107 h
def bSe_housesWithStory_9 (g : nt_T) (x2 : Int32) (x3 : Int32) : Option ((Int32 × Int32) ⊕ ((Int32))) :=
  (if (g 14 7) ≤ x3 then
    (some (.inr x2))
  else
    (nt_gd (nt_in x3 8) <| nt_lt (g 36 (Int32.toNatClampNeg x3)) fun v4 => nt_gd (nt_in v4 4) <| nt_gd (nt_in v4 4) <| nt_gd (nt_in x3 8) <| nt_lt ((g 42 (Int32.toNatClampNeg v4)) ||| ((g 41 (Int32.toNatClampNeg v4)) &&& ((g 38 (Int32.toNatClampNeg x3)) ^^^ (-1 : Int32)))) fun v8 => nt_gd (nt_in v4 4) <| (if (g 40 (Int32.toNatClampNeg v4)) < (2 : Int32) then
    (nt_lt (x3 + (1 : Int32)) fun v11 => some (.inl (x2, v11)))
  else
    (nt_gd (nt_in v4 4) <| nt_gd (nt_in ((x3 * (9 : Int32)) + (g 40 (Int32.toNatClampNeg v4))) 72) <| (if ((g 39 (Int32.toNatClampNeg ((x3 * (9 : Int32)) + (g 40 (Int32.toNatClampNeg v4))))) &&& (v8 ^^^ (-1 : Int32))) = 0 then
    (nt_lt (x3 + (1 : Int32)) fun v15 => some (.inl (x2, v15)))
  else
    (nt_lt (x2 ||| ((1 : Int32) <<< (v4 &&& 31))) fun v16 => nt_lt (x3 + (1 : Int32)) fun v17 => some (.inl (v16, v17))))))))
set_option maxRecDepth 100000 in
set_option maxHeartbeats 4000000 in
theorem tbSe_housesWithStory_9 {p : Program} {l : Launch} {e : Env} {s : State} {m : MethodId} {args : Array Value} {below : List Frame} {meth : Method} {c : Code} {w : nt_w} {A : Nat → Prop} (hw : nt_isX w) {Q : State → Prop} (X : nt_X cX3_housesWithStory 6 RX3 (some .int) w A p s m args meth c) (g : nt_T)  {Qx : ((Int32)) → Prop} (hE0 : ∀ (y2 : Int32), Qx y2 → nt_G p l e (nt_rm 3) s m args below meth c w A 0 0 Q 6 103 [(0, .ref (nt_a w 35)), (2, .int y2)] [] g) : ∀ (n : Nat) (x2 : Int32) (x3 : Int32), nt_R (nt_it (fun z => bSe_housesWithStory_9 g z.1 z.2) n (x2, x3)) Qx → nt_G p l e (nt_rm 3) s m args below meth c w A 0 0 Q 6 9 [(0, .ref (nt_a w 35)), (2, .int x2), (3, .int x3)] [] g := by
  intro n
  induction n with
  | zero =>
    intro x2 x3 h
    exact nt_R_none h
  | succ n ih =>
    intro x2 x3 h
    have h : nt_R (bSe_housesWithStory_9 g x2 x3) (nt_Qz (fun z => bSe_housesWithStory_9 g z.1 z.2) n Qx) := nt_R_it h
    have hI : ∀ (y2 : Int32) (y3 : Int32), nt_Qz (fun z => bSe_housesWithStory_9 g z.1 z.2) n Qx (.inl (y2, y3)) → nt_G p l e (nt_rm 3) s m args below meth c w A 0 0 Q 6 9 [(0, .ref (nt_a w 35)), (2, .int y2), (3, .int y3)] [] g := fun y2 y3 q => ih y2 y3 q
    have hE0 : ∀ (y2 : Int32), nt_Qz (fun z => bSe_housesWithStory_9 g z.1 z.2) n Qx (.inr y2) → nt_G p l e (nt_rm 3) s m args below meth c w A 0 0 Q 6 103 [(0, .ref (nt_a w 35)), (2, .int y2)] [] g := hE0
    generalize nt_Qz (fun z => bSe_housesWithStory_9 g z.1 z.2) n Qx = Qz at h hI hE0
    unfold bSe_housesWithStory_9 at h
    refine nt_iload_n X dX3_housesWithStory_9 rfl 2 rfl ?_
    refine nt_aload_n X dX3_housesWithStory_10 rfl 0 rfl ?_
    refine nt_get X 35 inX3 (nt_lX hw (Nat.le_of_ble_eq_true rfl)) (nt_e35 hw) rfl (j := 0) (by decide) wd_283 (v := .ref (nt_a w 14)) rfl dX3_housesWithStory_11 ?_
    refine nt_getN X 14 inX0 (nt_lP hw nt_p14 0 (by decide)) (nt_eP hw nt_p14) rfl (j := 7) (by decide) nt_nf17 (v := .int (g 14 7)) rfl dX3_housesWithStory_14 ?_
    obtain ⟨ht, hf⟩ := nt_R_if h
    refine nt_icmp_ge X 103 dX3_housesWithStory_17 (by decide) (fun q2 => ?_) (fun q2 => ?_)
    · have h := ht q2
      refine nt_sub [0, 1] rfl ?_
      have h := nt_R_some h
      exact hE0 x2 h
    · have h := hf q2
      refine nt_aload_n X dX3_housesWithStory_20 rfl 0 rfl ?_
      refine nt_get X 35 inX3 (nt_lX hw (Nat.le_of_ble_eq_true rfl)) (nt_e35 hw) rfl (j := 1) (by decide) wd_284 (v := .ref (nt_a w 36)) rfl dX3_housesWithStory_21 ?_
      refine nt_iload_n X dX3_housesWithStory_24 rfl 2 rfl ?_
      obtain ⟨q3, h⟩ := nt_R_gd h
      refine nt_iald X 36 0 (nt_lX hw (Nat.le_of_ble_eq_true rfl)) (nt_e36 hw) (nt_tX hw) q3 dX3_housesWithStory_25 ?_
      obtain ⟨v4, ev4, h⟩ := nt_R_lt h
      refine nt_topi ev4 ?_
      refine nt_istore X [(4, .int v4), (0, .ref (nt_a w 35)), (2, .int x2), (3, .int x3)] dX3_housesWithStory_26 (by decide) rfl ?_
      refine nt_aload_n X dX3_housesWithStory_28 rfl 1 rfl ?_
      refine nt_get X 35 inX3 (nt_lX hw (Nat.le_of_ble_eq_true rfl)) (nt_e35 hw) rfl (j := 8) (by decide) wd_291 (v := .ref (nt_a w 42)) rfl dX3_housesWithStory_29 ?_
      refine nt_iload X dX3_housesWithStory_32 0 rfl ?_
      obtain ⟨q5, h⟩ := nt_R_gd h
      refine nt_iald X 42 0 (nt_lX hw (Nat.le_of_ble_eq_true rfl)) (nt_e42 hw) (nt_tX hw) q5 dX3_housesWithStory_34 ?_
      refine nt_aload_n X dX3_housesWithStory_35 rfl 1 rfl ?_
      refine nt_get X 35 inX3 (nt_lX hw (Nat.le_of_ble_eq_true rfl)) (nt_e35 hw) rfl (j := 7) (by decide) wd_290 (v := .ref (nt_a w 41)) rfl dX3_housesWithStory_36 ?_
      refine nt_iload X dX3_housesWithStory_39 0 rfl ?_
      obtain ⟨q6, h⟩ := nt_R_gd h
      refine nt_iald X 41 0 (nt_lX hw (Nat.le_of_ble_eq_true rfl)) (nt_e41 hw) (nt_tX hw) q6 dX3_housesWithStory_41 ?_
      refine nt_aload_n X dX3_housesWithStory_42 rfl 1 rfl ?_
      refine nt_get X 35 inX3 (nt_lX hw (Nat.le_of_ble_eq_true rfl)) (nt_e35 hw) rfl (j := 4) (by decide) wd_287 (v := .ref (nt_a w 38)) rfl dX3_housesWithStory_43 ?_
      refine nt_iload_n X dX3_housesWithStory_46 rfl 3 rfl ?_
      obtain ⟨q7, h⟩ := nt_R_gd h
      refine nt_iald X 38 0 (nt_lX hw (Nat.le_of_ble_eq_true rfl)) (nt_e38 hw) (nt_tX hw) q7 dX3_housesWithStory_47 ?_
      refine nt_iconst X dX3_housesWithStory_48 nt_ci_m1 ?_
      refine nt_ixor X dX3_housesWithStory_49 ?_
      refine nt_iand X dX3_housesWithStory_50 ?_
      refine nt_ior X dX3_housesWithStory_51 ?_
      obtain ⟨v8, ev8, h⟩ := nt_R_lt h
      refine nt_topi ev8 ?_
      refine nt_istore X [(5, .int v8), (4, .int v4), (0, .ref (nt_a w 35)), (2, .int x2), (3, .int x3)] dX3_housesWithStory_52 (by decide) rfl ?_
      refine nt_aload_n X dX3_housesWithStory_54 rfl 2 rfl ?_
      refine nt_get X 35 inX3 (nt_lX hw (Nat.le_of_ble_eq_true rfl)) (nt_e35 hw) rfl (j := 6) (by decide) wd_289 (v := .ref (nt_a w 40)) rfl dX3_housesWithStory_55 ?_
      refine nt_iload X dX3_housesWithStory_58 1 rfl ?_
      obtain ⟨q9, h⟩ := nt_R_gd h
      refine nt_iald X 40 0 (nt_lX hw (Nat.le_of_ble_eq_true rfl)) (nt_e40 hw) (nt_tX hw) q9 dX3_housesWithStory_60 ?_
      refine nt_iconst X dX3_housesWithStory_61 nt_ci_2 ?_
      obtain ⟨ht, hf⟩ := nt_R_if h
      refine nt_icmp_lt X 97 dX3_housesWithStory_62 (by decide) (fun q10 => ?_) (fun q10 => ?_)
      · have h := ht q10
        obtain ⟨v11, ev11, h⟩ := nt_R_lt h
        refine nt_iinc X v11 [(3, .int v11), (5, .int v8), (4, .int v4), (0, .ref (nt_a w 35)), (2, .int x2)] dX3_housesWithStory_97 4 rfl (by rw [nt_ci_1]; exact ev11) (by decide) rfl ?_
        refine nt_goto X 9 dX3_housesWithStory_100 (by decide) ?_
        refine nt_sub [3, 4, 0] rfl ?_
        have h := nt_R_some h
        exact hI x2 v11 h
      · have h := hf q10
        refine nt_aload_n X dX3_housesWithStory_65 rfl 2 rfl ?_
        refine nt_get X 35 inX3 (nt_lX hw (Nat.le_of_ble_eq_true rfl)) (nt_e35 hw) rfl (j := 5) (by decide) wd_288 (v := .ref (nt_a w 39)) rfl dX3_housesWithStory_66 ?_
        refine nt_iload_n X dX3_housesWithStory_69 rfl 4 rfl ?_
        refine nt_bipush X dX3_housesWithStory_70 nt_cb_9 ?_
        refine nt_imul X dX3_housesWithStory_72 ?_
        refine nt_aload_n X dX3_housesWithStory_73 rfl 2 rfl ?_
        refine nt_get X 35 inX3 (nt_lX hw (Nat.le_of_ble_eq_true rfl)) (nt_e35 hw) rfl (j := 6) (by decide) wd_289 (v := .ref (nt_a w 40)) rfl dX3_housesWithStory_74 ?_
        refine nt_iload X dX3_housesWithStory_77 1 rfl ?_
        obtain ⟨q12, h⟩ := nt_R_gd h
        refine nt_iald X 40 0 (nt_lX hw (Nat.le_of_ble_eq_true rfl)) (nt_e40 hw) (nt_tX hw) q12 dX3_housesWithStory_79 ?_
        refine nt_iadd X dX3_housesWithStory_80 ?_
        obtain ⟨q13, h⟩ := nt_R_gd h
        refine nt_iald X 39 0 (nt_lX hw (Nat.le_of_ble_eq_true rfl)) (nt_e39 hw) (nt_tX hw) q13 dX3_housesWithStory_81 ?_
        refine nt_iload X dX3_housesWithStory_82 0 rfl ?_
        refine nt_iconst X dX3_housesWithStory_84 nt_ci_m1 ?_
        refine nt_ixor X dX3_housesWithStory_85 ?_
        refine nt_iand X dX3_housesWithStory_86 ?_
        obtain ⟨ht, hf⟩ := nt_R_if h
        refine nt_if_eq X 97 dX3_housesWithStory_87 (by decide) (fun q14 => ?_) (fun q14 => ?_)
        · have h := ht q14
          obtain ⟨v15, ev15, h⟩ := nt_R_lt h
          refine nt_iinc X v15 [(3, .int v15), (5, .int v8), (4, .int v4), (0, .ref (nt_a w 35)), (2, .int x2)] dX3_housesWithStory_97 4 rfl (by rw [nt_ci_1]; exact ev15) (by decide) rfl ?_
          refine nt_goto X 9 dX3_housesWithStory_100 (by decide) ?_
          refine nt_sub [3, 4, 0] rfl ?_
          have h := nt_R_some h
          exact hI x2 v15 h
        · have h := hf q14
          refine nt_iload_n X dX3_housesWithStory_90 rfl 3 rfl ?_
          refine nt_iconst X dX3_housesWithStory_91 nt_ci_1 ?_
          refine nt_iload X dX3_housesWithStory_92 1 rfl ?_
          refine nt_ishl X dX3_housesWithStory_94 ?_
          refine nt_ior X dX3_housesWithStory_95 ?_
          obtain ⟨v16, ev16, h⟩ := nt_R_lt h
          refine nt_topi ev16 ?_
          refine nt_istore_n X [(2, .int v16), (5, .int v8), (4, .int v4), (0, .ref (nt_a w 35)), (3, .int x3)] dX3_housesWithStory_96 rfl (by decide) rfl ?_
          obtain ⟨v17, ev17, h⟩ := nt_R_lt h
          refine nt_iinc X v17 [(3, .int v17), (2, .int v16), (5, .int v8), (4, .int v4), (0, .ref (nt_a w 35))] dX3_housesWithStory_97 4 rfl (by rw [nt_ci_1]; exact ev17) (by decide) rfl ?_
          refine nt_goto X 9 dX3_housesWithStory_100 (by decide) ?_
          refine nt_sub [4, 1, 0] rfl ?_
          have h := nt_R_some h
          exact hI v16 v17 h
def fSe_housesWithStory (x1 : Int32) (g : nt_T) : Option (Int32 × nt_T) :=
  nt_b1 (fSe_fillHouses x1 g) fun g1 => (nt_b1 (nt_it (fun z => bSe_housesWithStory_9 g1 z.1 z.2) nt_fu ((0 : Int32), (0 : Int32))) fun v18 => nt_b1 (fJi_bitCount_0f7a4 v18 g1) fun r19 => some (r19, g1))
set_option maxRecDepth 100000 in
set_option maxHeartbeats 4000000 in
theorem cSe_housesWithStory {l : Launch} {w : nt_w} (hw : nt_isX w) {x1 : Int32} {g : nt_T} {r : Int32} {g2 : nt_T} (hf : fSe_housesWithStory x1 g = some (r, g2)) : nt_Mi l w yX3_housesWithStory cX3_housesWithStory 6 (some .int) 3 [.ref (nt_a w 35), .int x1] g r g2 := by
  refine nt_Mi_of (by decide) (Nat.le_of_ble_eq_true rfl) (fun p e s m args below meth c A X => ?_)
  have X : nt_X cX3_housesWithStory 6 RX3 (some .int) w A p s m args meth c := X
  have h : nt_R (fSe_housesWithStory x1 g) (fun z => z = (r, g2)) := ⟨_, hf, rfl⟩
  unfold fSe_housesWithStory at h
  show nt_G p l e (nt_rm 3) s m args below meth c w A 0 0 (nt_Qi w A below args s r g2) 6 0 [(0, .ref (nt_a w 35)), (1, .int x1)] [] g
  refine nt_aload_n X dX3_housesWithStory_0 rfl 0 rfl ?_
  refine nt_iload_n X dX3_housesWithStory_1 rfl 1 rfl ?_
  obtain ⟨g1, eg1, h⟩ := nt_R_b1 h
  refine nt_cVv X (As := [.int x1]) 35 (nt_lX hw (Nat.le_of_ble_eq_true rfl)) (nt_e35 hw) rfl (cSe_fillHouses hw eg1) wd_529 wd_527 wd_528 wd_1063 wd_14 rfl hd_X3_fillHouses ⟨Nat.le_of_ble_eq_true rfl, Nat.le_of_ble_eq_true rfl⟩ ⟨Nat.le_refl 0, Nat.le_refl 0⟩ (Nat.le_of_ble_eq_true rfl) rfl dX3_housesWithStory_2 ?_
  refine nt_iconst X dX3_housesWithStory_5 nt_ci_0 ?_
  refine nt_istore_n X [(2, .int (0 : Int32)), (0, .ref (nt_a w 35)), (1, .int x1)] dX3_housesWithStory_6 rfl (by decide) rfl ?_
  refine nt_iconst X dX3_housesWithStory_7 nt_ci_0 ?_
  refine nt_istore_n X [(3, .int (0 : Int32)), (2, .int (0 : Int32)), (0, .ref (nt_a w 35)), (1, .int x1)] dX3_housesWithStory_8 rfl (by decide) rfl ?_
  obtain ⟨z20, hz20, h⟩ := nt_R_b1 h
  refine nt_sub [2, 1, 0] rfl ?_
  refine tbSe_housesWithStory_9 hw X g1 (Qx := fun z => z = z20) (fun v18 hq => ?_) nt_fu (0 : Int32) (0 : Int32) ⟨_, hz20, rfl⟩
  subst hq
  refine nt_iload_n X dX3_housesWithStory_103 rfl 1 rfl ?_
  obtain ⟨r19, er19, h⟩ := nt_R_b1 h
  refine nt_cSi X (As := [.int v18]) (cJi_bitCount_0f7a4 hw er19) wd_438 wd_530 wd_437 wd_17 hd_J6_bitCount_0f7a4 ⟨Nat.le_of_ble_eq_true rfl, Nat.le_of_ble_eq_true rfl⟩ ⟨Nat.le_refl 0, Nat.le_refl 0⟩ (Nat.le_of_ble_eq_true rfl) rfl dX3_housesWithStory_104 ?_
  have h := nt_R_some h
  exact nt_iret X dX3_housesWithStory_107 h
def bSe_nextWay_2 (x1 : Int32) (x2 : Int32) (g : nt_T) : Option ((Int32 × nt_T) ⊕ ((nt_T) ⊕ (nt_T))) :=
  (if (g 14 7) ≤ x2 then
    (some (.inr (.inr g)))
  else
    (nt_gd (nt_in x2 8) <| nt_gd (nt_in x2 8) <| nt_lt (nt_st g 36 (Int32.toNatClampNeg x2) ((g 36 (Int32.toNatClampNeg x2)) + (1 : Int32))) fun g4 => nt_gd (nt_in x2 8) <| (if x1 ≤ (g4 36 (Int32.toNatClampNeg x2)) then
    (nt_gd (nt_in x2 8) <| nt_lt (nt_st g4 36 (Int32.toNatClampNeg x2) (0 : Int32)) fun g8 => nt_lt (x2 + (1 : Int32)) fun v9 => some (.inl (v9, g8)))
  else
    (some (.inr (.inl g4))))))
set_option maxRecDepth 100000 in
set_option maxHeartbeats 4000000 in
theorem tbSe_nextWay_2 {p : Program} {l : Launch} {e : Env} {s : State} {m : MethodId} {args : Array Value} {below : List Frame} {meth : Method} {c : Code} {w : nt_w} {A : Nat → Prop} (hw : nt_isX w) {Q : State → Prop} (X : nt_X cX3_nextWay 3 RX3 none w A p s m args meth c) (x1 : Int32)  {Qx : ((nt_T) ⊕ (nt_T)) → Prop} (hE0 : ∀ (gy : nt_T), Qx (.inl gy) → nt_G p l e (nt_rm 1) s m args below meth c w A 0 0 Q 3 33 [(0, .ref (nt_a w 35)), (1, .int x1)] [] gy) (hE1 : ∀ (gy : nt_T), Qx (.inr gy) → nt_G p l e (nt_rm 1) s m args below meth c w A 0 0 Q 3 47 [(0, .ref (nt_a w 35)), (1, .int x1)] [] gy) : ∀ (n : Nat) (x2 : Int32) (g : nt_T), nt_R (nt_it (fun z => bSe_nextWay_2 x1 z.1 z.2) n (x2, g)) Qx → nt_G p l e (nt_rm 1) s m args below meth c w A 0 0 Q 3 2 [(0, .ref (nt_a w 35)), (1, .int x1), (2, .int x2)] [] g := by
  intro n
  induction n with
  | zero =>
    intro x2 g h
    exact nt_R_none h
  | succ n ih =>
    intro x2 g h
    have h : nt_R (bSe_nextWay_2 x1 x2 g) (nt_Qz (fun z => bSe_nextWay_2 x1 z.1 z.2) n Qx) := nt_R_it h
    have hI : ∀ (y2 : Int32) (gy : nt_T), nt_Qz (fun z => bSe_nextWay_2 x1 z.1 z.2) n Qx (.inl (y2, gy)) → nt_G p l e (nt_rm 1) s m args below meth c w A 0 0 Q 3 2 [(0, .ref (nt_a w 35)), (1, .int x1), (2, .int y2)] [] gy := fun y2 gy q => ih y2 gy q
    have hE0 : ∀ (gy : nt_T), nt_Qz (fun z => bSe_nextWay_2 x1 z.1 z.2) n Qx (.inr (.inl gy)) → nt_G p l e (nt_rm 1) s m args below meth c w A 0 0 Q 3 33 [(0, .ref (nt_a w 35)), (1, .int x1)] [] gy := hE0
    have hE1 : ∀ (gy : nt_T), nt_Qz (fun z => bSe_nextWay_2 x1 z.1 z.2) n Qx (.inr (.inr gy)) → nt_G p l e (nt_rm 1) s m args below meth c w A 0 0 Q 3 47 [(0, .ref (nt_a w 35)), (1, .int x1)] [] gy := hE1
    generalize nt_Qz (fun z => bSe_nextWay_2 x1 z.1 z.2) n Qx = Qz at h hI hE0 hE1
    unfold bSe_nextWay_2 at h
    refine nt_iload_n X dX3_nextWay_2 rfl 2 rfl ?_
    refine nt_aload_n X dX3_nextWay_3 rfl 0 rfl ?_
    refine nt_get X 35 inX3 (nt_lX hw (Nat.le_of_ble_eq_true rfl)) (nt_e35 hw) rfl (j := 0) (by decide) wd_283 (v := .ref (nt_a w 14)) rfl dX3_nextWay_4 ?_
    refine nt_getN X 14 inX0 (nt_lP hw nt_p14 0 (by decide)) (nt_eP hw nt_p14) rfl (j := 7) (by decide) nt_nf17 (v := .int (g 14 7)) rfl dX3_nextWay_7 ?_
    obtain ⟨ht, hf⟩ := nt_R_if h
    refine nt_icmp_ge X 47 dX3_nextWay_10 (by decide) (fun q1 => ?_) (fun q1 => ?_)
    · have h := ht q1
      refine nt_sub [0, 1] rfl ?_
      have h := nt_R_some h
      exact hE1 g h
    · have h := hf q1
      refine nt_aload_n X dX3_nextWay_13 rfl 0 rfl ?_
      refine nt_get X 35 inX3 (nt_lX hw (Nat.le_of_ble_eq_true rfl)) (nt_e35 hw) rfl (j := 1) (by decide) wd_284 (v := .ref (nt_a w 36)) rfl dX3_nextWay_14 ?_
      refine nt_iload_n X dX3_nextWay_17 rfl 2 rfl ?_
      refine nt_dup2 X dX3_nextWay_18 rfl rfl ?_
      obtain ⟨q2, h⟩ := nt_R_gd h
      refine nt_iald X 36 0 (nt_lX hw (Nat.le_of_ble_eq_true rfl)) (nt_e36 hw) (nt_tX hw) q2 dX3_nextWay_19 ?_
      refine nt_iconst X dX3_nextWay_20 nt_ci_1 ?_
      refine nt_iadd X dX3_nextWay_21 ?_
      obtain ⟨q3, h⟩ := nt_R_gd h
      refine nt_iast X 36 0 (nt_lX hw (Nat.le_of_ble_eq_true rfl)) (nt_e36 hw) (nt_tX hw) q3 dX3_nextWay_22 ?_
      obtain ⟨g4, eg4, h⟩ := nt_R_lt h
      refine nt_geq eg4 ?_
      refine nt_aload_n X dX3_nextWay_23 rfl 0 rfl ?_
      refine nt_get X 35 inX3 (nt_lX hw (Nat.le_of_ble_eq_true rfl)) (nt_e35 hw) rfl (j := 1) (by decide) wd_284 (v := .ref (nt_a w 36)) rfl dX3_nextWay_24 ?_
      refine nt_iload_n X dX3_nextWay_27 rfl 2 rfl ?_
      obtain ⟨q5, h⟩ := nt_R_gd h
      refine nt_iald X 36 0 (nt_lX hw (Nat.le_of_ble_eq_true rfl)) (nt_e36 hw) (nt_tX hw) q5 dX3_nextWay_28 ?_
      refine nt_iload_n X dX3_nextWay_29 rfl 1 rfl ?_
      obtain ⟨ht, hf⟩ := nt_R_if h
      refine nt_icmp_ge X 34 dX3_nextWay_30 (by decide) (fun q6 => ?_) (fun q6 => ?_)
      · have h := ht q6
        refine nt_aload_n X dX3_nextWay_34 rfl 0 rfl ?_
        refine nt_get X 35 inX3 (nt_lX hw (Nat.le_of_ble_eq_true rfl)) (nt_e35 hw) rfl (j := 1) (by decide) wd_284 (v := .ref (nt_a w 36)) rfl dX3_nextWay_35 ?_
        refine nt_iload_n X dX3_nextWay_38 rfl 2 rfl ?_
        refine nt_iconst X dX3_nextWay_39 nt_ci_0 ?_
        obtain ⟨q7, h⟩ := nt_R_gd h
        refine nt_iast X 36 0 (nt_lX hw (Nat.le_of_ble_eq_true rfl)) (nt_e36 hw) (nt_tX hw) q7 dX3_nextWay_40 ?_
        obtain ⟨g8, eg8, h⟩ := nt_R_lt h
        refine nt_geq eg8 ?_
        obtain ⟨v9, ev9, h⟩ := nt_R_lt h
        refine nt_iinc X v9 [(2, .int v9), (0, .ref (nt_a w 35)), (1, .int x1)] dX3_nextWay_41 2 rfl (by rw [nt_ci_1]; exact ev9) (by decide) rfl ?_
        refine nt_goto X 2 dX3_nextWay_44 (by decide) ?_
        refine nt_sub [1, 2, 0] rfl ?_
        have h := nt_R_some h
        exact hI v9 g8 h
      · have h := hf q6
        refine nt_sub [0, 1] rfl ?_
        have h := nt_R_some h
        exact hE0 g4 h
def fSe_nextWay (x1 : Int32) (g : nt_T) : Option (nt_T) :=
  (nt_b1 (nt_it (fun z => bSe_nextWay_2 x1 z.1 z.2) nt_fu ((0 : Int32), g)) fun z12 => match z12 with
  | (.inl g10) => some g10
  | .inr (g11) => some g11)
set_option maxRecDepth 100000 in
set_option maxHeartbeats 4000000 in
theorem cSe_nextWay {l : Launch} {w : nt_w} (hw : nt_isX w) {x1 : Int32} {g : nt_T} {g2 : nt_T} (hf : fSe_nextWay x1 g = some g2) : nt_Mv l w yX3_nextWay cX3_nextWay 3 none 1 [.ref (nt_a w 35), .int x1] g g2 := by
  refine nt_Mv_of (by decide) (Nat.le_of_ble_eq_true rfl) (fun p e s m args below meth c A X => ?_)
  have X : nt_X cX3_nextWay 3 RX3 none w A p s m args meth c := X
  have h : nt_R (fSe_nextWay x1 g) (fun z => z = g2) := ⟨_, hf, rfl⟩
  unfold fSe_nextWay at h
  show nt_G p l e (nt_rm 1) s m args below meth c w A 0 0 (nt_Qv w A below args s g2) 3 0 [(0, .ref (nt_a w 35)), (1, .int x1)] [] g
  refine nt_iconst X dX3_nextWay_0 nt_ci_0 ?_
  refine nt_istore_n X [(2, .int (0 : Int32)), (0, .ref (nt_a w 35)), (1, .int x1)] dX3_nextWay_1 rfl (by decide) rfl ?_
  obtain ⟨z12, hz12, h⟩ := nt_R_b1 h
  refine nt_sub [1, 2, 0] rfl ?_
  refine tbSe_nextWay_2 hw X x1 (Qx := fun z => z = z12) (fun g10 hq => ?_) (fun g11 hq => ?_) nt_fu (0 : Int32) g ⟨_, hz12, rfl⟩
  · subst hq
    have h := nt_R_some h
    exact nt_vret X dX3_nextWay_33 h
  · subst hq
    have h := nt_R_some h
    exact nt_vret X dX3_nextWay_47 h
def jSe_search_83 (nr : Nat) (ln : Nat → Nat) (x1 : Int32) (x2 : Int32) (x3 : Int32) (x4 : Int32) (g : nt_T) : Option ((Int32 × nt_T) ⊕ ((nt_T))) :=
  nt_b1 (fSe_nextWay x1 g) fun g11 => nt_lt (x4 + (1 : Int32)) fun v12 => some (.inl (v12, g11))
set_option maxRecDepth 100000 in
set_option maxHeartbeats 4000000 in
theorem tjSe_search_83 {p : Program} {l : Launch} {e : Env} {s : State} {m : MethodId} {args : Array Value} {below : List Frame} {meth : Method} {c : Code} {w : nt_w} {A : Nat → Prop} {nr : Nat} {ln : Nat → Nat} (hw : nt_isX w)  (hR : nt_isR w nr ln) {Q : State → Prop} (X : nt_X cX3_search 6 RX3 none w A p s m args meth c) (x1 : Int32) (x2 : Int32) (x3 : Int32) (x4 : Int32) (g : nt_T) {Qz : (Int32 × nt_T) ⊕ ((nt_T)) → Prop} (hI : ∀ (y4 : Int32) (gy : nt_T), Qz (.inl (y4, gy)) → nt_G p l e (nt_rm 11) s m args below meth c w A 0 0 Q 6 32 [(0, .ref (nt_a w 35)), (1, .int x1), (2, .int x2), (3, .int x3), (4, .int y4)] [] gy) (hE0 : ∀ (gy : nt_T), Qz (.inr gy) → nt_G p l e (nt_rm 11) s m args below meth c w A 0 0 Q 6 94 [(0, .ref (nt_a w 35)), (1, .int x1), (2, .int x2), (3, .int x3)] [] gy) (h : nt_R (jSe_search_83 nr ln x1 x2 x3 x4 g) Qz) : nt_G p l e (nt_rm 11) s m args below meth c w A 0 0 Q 6 83 [(0, .ref (nt_a w 35)), (1, .int x1), (2, .int x2), (3, .int x3), (4, .int x4)] [] g := by
  unfold jSe_search_83 at h
  refine nt_aload_n X dX3_search_83 rfl 0 rfl ?_
  refine nt_iload_n X dX3_search_84 rfl 1 rfl ?_
  obtain ⟨g11, eg11, h⟩ := nt_R_b1 h
  refine nt_cVv X (As := [.int x1]) 35 (nt_lX hw (Nat.le_of_ble_eq_true rfl)) (nt_e35 hw) rfl (cSe_nextWay hw eg11) wd_534 wd_532 wd_533 wd_1064 wd_14 rfl hd_X3_nextWay ⟨Nat.le_of_ble_eq_true rfl, Nat.le_of_ble_eq_true rfl⟩ ⟨Nat.le_refl 0, Nat.le_refl 0⟩ (Nat.le_of_ble_eq_true rfl) rfl dX3_search_85 ?_
  obtain ⟨v12, ev12, h⟩ := nt_R_lt h
  refine nt_iinc X v12 [(4, .int v12), (0, .ref (nt_a w 35)), (1, .int x1), (2, .int x2), (3, .int x3)] dX3_search_88 4 rfl (by rw [nt_ci_1]; exact ev12) (by decide) rfl ?_
  refine nt_goto X 32 dX3_search_91 (by decide) ?_
  refine nt_sub [1, 2, 3, 4, 0] rfl ?_
  have h := nt_R_some h
  exact hI v12 g11 h
def bSe_search_32 (nr : Nat) (ln : Nat → Nat) (x1 : Int32) (x2 : Int32) (x3 : Int32) (x4 : Int32) (g : nt_T) : Option ((Int32 × nt_T) ⊕ ((nt_T))) :=
  (if x2 ≤ x4 then
    (some (.inr g))
  else
    ((if x3 ≤ (g 35 3) then
    (some (.inr g))
  else
    (nt_b2 (fSe_housesWithStory x1 g) fun r8 g9 => (if r8 ≤ (g9 35 3) then
    (jSe_search_83 nr ln x1 x2 x3 x4 g9)
  else
    (nt_lt (nt_st g9 35 3 r8) fun g13 => nt_gd (nt_cpok (0 : Int32) (0 : Int32) (8 : Int32) 8 8) <| nt_lt (nt_sc g13 37 (va_cpy (g13 36) (g13 37) (Int32.toNatClampNeg (0 : Int32)) (Int32.toNatClampNeg (0 : Int32)) (Int32.toNatClampNeg (8 : Int32)))) fun g15 => jSe_search_83 nr ln x1 x2 x3 x4 g15))))))
set_option maxRecDepth 100000 in
set_option maxHeartbeats 4000000 in
theorem tbSe_search_32 {p : Program} {l : Launch} {e : Env} {s : State} {m : MethodId} {args : Array Value} {below : List Frame} {meth : Method} {c : Code} {w : nt_w} {A : Nat → Prop} {nr : Nat} {ln : Nat → Nat} (hw : nt_isX w)  (hR : nt_isR w nr ln) {Q : State → Prop} (X : nt_X cX3_search 6 RX3 none w A p s m args meth c) (x1 : Int32) (x2 : Int32) (x3 : Int32)  {Qx : ((nt_T)) → Prop} (hE0 : ∀ (gy : nt_T), Qx gy → nt_G p l e (nt_rm 11) s m args below meth c w A 0 0 Q 6 94 [(0, .ref (nt_a w 35)), (1, .int x1), (2, .int x2), (3, .int x3)] [] gy) : ∀ (n : Nat) (x4 : Int32) (g : nt_T), nt_R (nt_it (fun z => bSe_search_32 nr ln x1 x2 x3 z.1 z.2) n (x4, g)) Qx → nt_G p l e (nt_rm 11) s m args below meth c w A 0 0 Q 6 32 [(0, .ref (nt_a w 35)), (1, .int x1), (2, .int x2), (3, .int x3), (4, .int x4)] [] g := by
  intro n
  induction n with
  | zero =>
    intro x4 g h
    exact nt_R_none h
  | succ n ih =>
    intro x4 g h
    have h : nt_R (bSe_search_32 nr ln x1 x2 x3 x4 g) (nt_Qz (fun z => bSe_search_32 nr ln x1 x2 x3 z.1 z.2) n Qx) := nt_R_it h
    have hI : ∀ (y4 : Int32) (gy : nt_T), nt_Qz (fun z => bSe_search_32 nr ln x1 x2 x3 z.1 z.2) n Qx (.inl (y4, gy)) → nt_G p l e (nt_rm 11) s m args below meth c w A 0 0 Q 6 32 [(0, .ref (nt_a w 35)), (1, .int x1), (2, .int x2), (3, .int x3), (4, .int y4)] [] gy := fun y4 gy q => ih y4 gy q
    have hE0 : ∀ (gy : nt_T), nt_Qz (fun z => bSe_search_32 nr ln x1 x2 x3 z.1 z.2) n Qx (.inr gy) → nt_G p l e (nt_rm 11) s m args below meth c w A 0 0 Q 6 94 [(0, .ref (nt_a w 35)), (1, .int x1), (2, .int x2), (3, .int x3)] [] gy := hE0
    generalize nt_Qz (fun z => bSe_search_32 nr ln x1 x2 x3 z.1 z.2) n Qx = Qz at h hI hE0
    unfold bSe_search_32 at h
    refine nt_iload X dX3_search_32 4 rfl ?_
    refine nt_iload_n X dX3_search_34 rfl 2 rfl ?_
    obtain ⟨ht, hf⟩ := nt_R_if h
    refine nt_icmp_ge X 94 dX3_search_35 (by decide) (fun q6 => ?_) (fun q6 => ?_)
    · have h := ht q6
      refine nt_sub [0, 1, 2, 3] rfl ?_
      have h := nt_R_some h
      exact hE0 g h
    · have h := hf q6
      refine nt_aload_n X dX3_search_38 rfl 0 rfl ?_
      refine nt_get X 35 inX3 (nt_lX hw (Nat.le_of_ble_eq_true rfl)) (nt_e35 hw) rfl (j := 3) (by decide) wd_286 (v := .int (g 35 3)) rfl dX3_search_39 ?_
      refine nt_iload_n X dX3_search_42 rfl 3 rfl ?_
      obtain ⟨ht, hf⟩ := nt_R_if h
      refine nt_icmp_ge X 94 dX3_search_43 (by decide) (fun q7 => ?_) (fun q7 => ?_)
      · have h := ht q7
        refine nt_sub [0, 1, 2, 3] rfl ?_
        have h := nt_R_some h
        exact hE0 g h
      · have h := hf q7
        refine nt_aload_n X dX3_search_46 rfl 0 rfl ?_
        refine nt_iload_n X dX3_search_47 rfl 1 rfl ?_
        obtain ⟨r8, g9, er8, h⟩ := nt_R_b2 h
        refine nt_cVi X (As := [.int x1]) 35 (nt_lX hw (Nat.le_of_ble_eq_true rfl)) (nt_e35 hw) rfl (cSe_housesWithStory hw er8) wd_526 wd_524 wd_525 wd_1062 wd_14 rfl hd_X3_housesWithStory ⟨Nat.le_of_ble_eq_true rfl, Nat.le_of_ble_eq_true rfl⟩ ⟨Nat.le_refl 0, Nat.le_refl 0⟩ (Nat.le_of_ble_eq_true rfl) rfl dX3_search_48 ?_
        refine nt_istore X [(5, .int r8), (0, .ref (nt_a w 35)), (1, .int x1), (2, .int x2), (3, .int x3), (4, .int x4)] dX3_search_51 (by decide) rfl ?_
        refine nt_iload X dX3_search_53 0 rfl ?_
        refine nt_aload_n X dX3_search_55 rfl 1 rfl ?_
        refine nt_get X 35 inX3 (nt_lX hw (Nat.le_of_ble_eq_true rfl)) (nt_e35 hw) rfl (j := 3) (by decide) wd_286 (v := .int (g9 35 3)) rfl dX3_search_56 ?_
        obtain ⟨ht, hf⟩ := nt_R_if h
        refine nt_icmp_le X 83 dX3_search_59 (by decide) (fun q10 => ?_) (fun q10 => ?_)
        · have h := ht q10
          refine nt_sub [1, 2, 3, 4, 5] rfl ?_
          exact tjSe_search_83 hw  hR X x1 x2 x3 x4 g9 hI hE0 h
        · have h := hf q10
          refine nt_aload_n X dX3_search_62 rfl 1 rfl ?_
          refine nt_iload X dX3_search_63 0 rfl ?_
          refine nt_put X 35 inX3 (nt_lX hw (Nat.le_of_ble_eq_true rfl)) (nt_e35 hw) rfl (j := 3) (by decide) wd_286 tyX3 tyX3_ok nmX3 rfl (ty := .int) rfl rfl rfl (fun _ => Nat.le_of_ble_eq_true rfl) (fun _ => rfl) dX3_search_65 ?_
          obtain ⟨g13, eg13, h⟩ := nt_R_lt h
          refine nt_geq eg13 ?_
          refine nt_aload_n X dX3_search_68 rfl 1 rfl ?_
          refine nt_get X 35 inX3 (nt_lX hw (Nat.le_of_ble_eq_true rfl)) (nt_e35 hw) rfl (j := 1) (by decide) wd_284 (v := .ref (nt_a w 36)) rfl dX3_search_69 ?_
          refine nt_iconst X dX3_search_72 nt_ci_0 ?_
          refine nt_aload_n X dX3_search_73 rfl 1 rfl ?_
          refine nt_get X 35 inX3 (nt_lX hw (Nat.le_of_ble_eq_true rfl)) (nt_e35 hw) rfl (j := 2) (by decide) wd_285 (v := .ref (nt_a w 37)) rfl dX3_search_74 ?_
          refine nt_iconst X dX3_search_77 nt_ci_0 ?_
          refine nt_bipush X dX3_search_78 nt_cb_8 ?_
          obtain ⟨q14, h⟩ := nt_R_gd h
          refine nt_copy X wd_531 wd_230 wd_229 wd_12 36 37 0 (nt_lX hw (Nat.le_of_ble_eq_true rfl)) (nt_e36 hw) (nt_lX hw (Nat.le_of_ble_eq_true rfl)) (nt_e37 hw) (nt_tX hw) q14 ⟨Nat.le_of_ble_eq_true rfl, Nat.le_of_ble_eq_true rfl⟩ dX3_search_80 ?_
          obtain ⟨g15, eg15, h⟩ := nt_R_lt h
          refine nt_geq eg15 ?_
          refine nt_sub [1, 2, 3, 4, 5] rfl ?_
          exact tjSe_search_83 hw  hR X x1 x2 x3 x4 g15 hI hE0 h
def fSe_search (nr : Nat) (ln : Nat → Nat) (x1 : Int32) (g : nt_T) : Option (nt_T) :=
  nt_b1 (fSe_prepare nr ln g) fun g1 => nt_lt (nt_st g1 35 3 (-1 : Int32)) fun g2 => nt_b1 (fSe_waysOver x1 g2) fun r3 => nt_gd (decide (¬ (2 : Int32) = 0)) <| nt_lt (nt_min x1 ((g2 14 7) / (2 : Int32))) fun v5 => (nt_b1 (nt_it (fun z => bSe_search_32 nr ln x1 r3 v5 z.1 z.2) nt_fu ((0 : Int32), g2)) fun g16 => some g16)
set_option maxRecDepth 100000 in
set_option maxHeartbeats 4000000 in
theorem cSe_search {l : Launch} {w : nt_w} (hw : nt_isX w) {nr : Nat} {ln : Nat → Nat}  (hR : nt_isR w nr ln) {x1 : Int32} {g : nt_T} {g2 : nt_T} (hf : fSe_search nr ln x1 g = some g2) : nt_Mv l w yX3_search cX3_search 6 none 11 [.ref (nt_a w 35), .int x1] g g2 := by
  refine nt_Mv_of (by decide) (Nat.le_of_ble_eq_true rfl) (fun p e s m args below meth c A X => ?_)
  have X : nt_X cX3_search 6 RX3 none w A p s m args meth c := X
  have h : nt_R (fSe_search nr ln x1 g) (fun z => z = g2) := ⟨_, hf, rfl⟩
  unfold fSe_search at h
  show nt_G p l e (nt_rm 11) s m args below meth c w A 0 0 (nt_Qv w A below args s g2) 6 0 [(0, .ref (nt_a w 35)), (1, .int x1)] [] g
  refine nt_aload_n X dX3_search_0 rfl 0 rfl ?_
  obtain ⟨g1, eg1, h⟩ := nt_R_b1 h
  refine nt_cVv X (As := []) 35 (nt_lX hw (Nat.le_of_ble_eq_true rfl)) (nt_e35 hw) rfl (cSe_prepare hw hR eg1) wd_518 wd_516 wd_517 wd_1060 wd_14 rfl hd_X3_prepare ⟨Nat.le_of_ble_eq_true rfl, Nat.le_of_ble_eq_true rfl⟩ ⟨Nat.le_refl 0, Nat.le_refl 0⟩ (Nat.le_of_ble_eq_true rfl) rfl dX3_search_1 ?_
  refine nt_aload_n X dX3_search_4 rfl 0 rfl ?_
  refine nt_iconst X dX3_search_5 nt_ci_m1 ?_
  refine nt_put X 35 inX3 (nt_lX hw (Nat.le_of_ble_eq_true rfl)) (nt_e35 hw) rfl (j := 3) (by decide) wd_286 tyX3 tyX3_ok nmX3 rfl (ty := .int) rfl rfl rfl (fun _ => Nat.le_of_ble_eq_true rfl) (fun _ => rfl) dX3_search_6 ?_
  obtain ⟨g2, eg2, h⟩ := nt_R_lt h
  refine nt_geq eg2 ?_
  refine nt_aload_n X dX3_search_9 rfl 0 rfl ?_
  refine nt_iload_n X dX3_search_10 rfl 1 rfl ?_
  obtain ⟨r3, er3, h⟩ := nt_R_b1 h
  refine nt_cVi X (As := [.int x1]) 35 (nt_lX hw (Nat.le_of_ble_eq_true rfl)) (nt_e35 hw) rfl (cSe_waysOver hw er3) wd_513 wd_522 wd_512 wd_1058 wd_14 rfl hd_X3_waysOver ⟨Nat.le_of_ble_eq_true rfl, Nat.le_of_ble_eq_true rfl⟩ ⟨Nat.le_refl 0, Nat.le_refl 0⟩ (Nat.le_of_ble_eq_true rfl) rfl dX3_search_11 ?_
  refine nt_istore_n X [(2, .int r3), (0, .ref (nt_a w 35)), (1, .int x1)] dX3_search_14 rfl (by decide) rfl ?_
  refine nt_iload_n X dX3_search_15 rfl 2 rfl ?_
  refine nt_aload_n X dX3_search_16 rfl 1 rfl ?_
  refine nt_get X 35 inX3 (nt_lX hw (Nat.le_of_ble_eq_true rfl)) (nt_e35 hw) rfl (j := 0) (by decide) wd_283 (v := .ref (nt_a w 14)) rfl dX3_search_17 ?_
  refine nt_getN X 14 inX0 (nt_lP hw nt_p14 0 (by decide)) (nt_eP hw nt_p14) rfl (j := 7) (by decide) nt_nf17 (v := .int (g2 14 7)) rfl dX3_search_20 ?_
  refine nt_iconst X dX3_search_23 nt_ci_2 ?_
  obtain ⟨q4, h⟩ := nt_R_gd h
  refine nt_idiv X dX3_search_24 (of_decide_eq_true q4) ?_
  refine nt_mmin X wd_523 wd_163 wd_9 wd_164 ⟨Nat.le_of_ble_eq_true rfl, Nat.le_of_ble_eq_true rfl⟩ ⟨Nat.le_refl 0, Nat.le_refl 0⟩ dX3_search_25 ?_
  obtain ⟨v5, ev5, h⟩ := nt_R_lt h
  refine nt_topi ev5 ?_
  refine nt_istore_n X [(3, .int v5), (2, .int r3), (0, .ref (nt_a w 35)), (1, .int x1)] dX3_search_28 rfl (by decide) rfl ?_
  refine nt_iconst X dX3_search_29 nt_ci_0 ?_
  refine nt_istore X [(4, .int (0 : Int32)), (3, .int v5), (2, .int r3), (0, .ref (nt_a w 35)), (1, .int x1)] dX3_search_30 (by decide) rfl ?_
  obtain ⟨z17, hz17, h⟩ := nt_R_b1 h
  refine nt_sub [3, 4, 2, 1, 0] rfl ?_
  refine tbSe_search_32 hw  hR X x1 r3 v5 (Qx := fun z => z = z17) (fun g16 hq => ?_) nt_fu (0 : Int32) g2 ⟨_, hz17, rfl⟩
  subst hq
  have h := nt_R_some h
  exact nt_vret X dX3_search_94 h
def fSs_has (x1 : Int32) (g : nt_T) : Option (Int32) :=
  nt_b1 (fNt_isBelow x1 (4 : Int32) g) fun r1 => nt_gd (decide (narrow .boolean (.int r1) = .int r1)) <| some r1
set_option maxRecDepth 100000 in
set_option maxHeartbeats 4000000 in
theorem cSs_has {l : Launch} {w : nt_w} (hw : nt_isX w) {x1 : Int32} {g : nt_T} {r : Int32} (hf : fSs_has x1 g = some r) : nt_Mi l w yX4_has cX4_has 2 (some .boolean) 3 [.ref (nt_a w 43), .int x1] g r g := by
  refine nt_Mi_of (by decide) (Nat.le_of_ble_eq_true rfl) (fun p e s m args below meth c A X => ?_)
  have X : nt_X cX4_has 2 RX4 (some .boolean) w A p s m args meth c := X
  have hg : g = g := rfl
  have h : nt_R (fSs_has x1 g) (fun z => z = r) := ⟨_, hf, rfl⟩
  unfold fSs_has at h
  show nt_G p l e (nt_rm 3) s m args below meth c w A 0 0 (nt_Qi w A below args s r g) 2 0 [(0, .ref (nt_a w 43)), (1, .int x1)] [] g
  refine nt_iload_n X dX4_has_0 rfl 1 rfl ?_
  refine nt_iconst X dX4_has_1 nt_ci_4 ?_
  obtain ⟨r1, er1, h⟩ := nt_R_b1 h
  refine nt_cSNi X (As := [.int x1, .int (4 : Int32)]) (cNt_isBelow hw er1) wd_336 nt_nm52 wd_335 wd_1 hd_X8_isBelow ⟨Nat.le_of_ble_eq_true rfl, Nat.le_of_ble_eq_true rfl⟩ ⟨Nat.le_refl 0, Nat.le_refl 0⟩ (Nat.le_of_ble_eq_true rfl) rfl dX4_has_2 ?_
  obtain ⟨q2, h⟩ := nt_R_gd h
  have h := nt_R_some h
  exact nt_zret X (of_decide_eq_true q2) dX4_has_5 (nt_pe h hg)
def fSs_isMissing (x1 : Int32) (g : nt_T) : Option (Int32) :=
  nt_gd (nt_in x1 4) <| (if (g 44 (Int32.toNatClampNeg x1)) = (-1 : Int32) then
    (some (1 : Int32))
  else
    (some (0 : Int32)))
set_option maxRecDepth 100000 in
set_option maxHeartbeats 4000000 in
theorem cSs_isMissing {l : Launch} {w : nt_w} (hw : nt_isX w) {x1 : Int32} {g : nt_T} {r : Int32} (hf : fSs_isMissing x1 g = some r) : nt_Mi l w yX4_isMissing cX4_isMissing 2 (some .boolean) 1 [.ref (nt_a w 43), .int x1] g r g := by
  refine nt_Mi_of (by decide) (Nat.le_of_ble_eq_true rfl) (fun p e s m args below meth c A X => ?_)
  have X : nt_X cX4_isMissing 2 RX4 (some .boolean) w A p s m args meth c := X
  have hg : g = g := rfl
  have h : nt_R (fSs_isMissing x1 g) (fun z => z = r) := ⟨_, hf, rfl⟩
  unfold fSs_isMissing at h
  show nt_G p l e (nt_rm 1) s m args below meth c w A 0 0 (nt_Qi w A below args s r g) 2 0 [(0, .ref (nt_a w 43)), (1, .int x1)] [] g
  refine nt_aload_n X dX4_isMissing_0 rfl 0 rfl ?_
  refine nt_get X 43 inX4 (nt_lX hw (Nat.le_of_ble_eq_true rfl)) (nt_e43 hw) rfl (j := 0) (by decide) wd_306 (v := .ref (nt_a w 44)) rfl dX4_isMissing_1 ?_
  refine nt_iload_n X dX4_isMissing_4 rfl 1 rfl ?_
  obtain ⟨q1, h⟩ := nt_R_gd h
  refine nt_iald X 44 0 (nt_lX hw (Nat.le_of_ble_eq_true rfl)) (nt_e44 hw) (nt_tX hw) q1 dX4_isMissing_5 ?_
  refine nt_iconst X dX4_isMissing_6 nt_ci_m1 ?_
  obtain ⟨ht, hf⟩ := nt_R_if h
  refine nt_icmp_ne X 14 dX4_isMissing_7 (by decide) (fun q2 => ?_) (fun q2 => ?_)
  · have h := hf q2
    refine nt_iconst X dX4_isMissing_14 nt_ci_0 ?_
    have h := nt_R_some h
    exact nt_zret X rfl dX4_isMissing_15 (nt_pe h hg)
  · have h := ht q2
    refine nt_iconst X dX4_isMissing_10 nt_ci_1 ?_
    refine nt_goto X 15 dX4_isMissing_11 (by decide) ?_
    have h := nt_R_some h
    exact nt_zret X rfl dX4_isMissing_15 (nt_pe h hg)
def fSs_reaches (x1 : Int32) (x2 : Int32) (g : nt_T) : Option (Int32) :=
  nt_gd (nt_in x1 4) <| nt_b1 (fNt_isBelow x2 (g 45 (Int32.toNatClampNeg x1)) g) fun r2 => nt_gd (decide (narrow .boolean (.int r2) = .int r2)) <| some r2
set_option maxRecDepth 100000 in
set_option maxHeartbeats 4000000 in
theorem cSs_reaches {l : Launch} {w : nt_w} (hw : nt_isX w) {x1 : Int32} {x2 : Int32} {g : nt_T} {r : Int32} (hf : fSs_reaches x1 x2 g = some r) : nt_Mi l w yX4_reaches cX4_reaches 3 (some .boolean) 3 [.ref (nt_a w 43), .int x1, .int x2] g r g := by
  refine nt_Mi_of (by decide) (Nat.le_of_ble_eq_true rfl) (fun p e s m args below meth c A X => ?_)
  have X : nt_X cX4_reaches 3 RX4 (some .boolean) w A p s m args meth c := X
  have hg : g = g := rfl
  have h : nt_R (fSs_reaches x1 x2 g) (fun z => z = r) := ⟨_, hf, rfl⟩
  unfold fSs_reaches at h
  show nt_G p l e (nt_rm 3) s m args below meth c w A 0 0 (nt_Qi w A below args s r g) 3 0 [(0, .ref (nt_a w 43)), (1, .int x1), (2, .int x2)] [] g
  refine nt_iload_n X dX4_reaches_0 rfl 2 rfl ?_
  refine nt_aload_n X dX4_reaches_1 rfl 0 rfl ?_
  refine nt_get X 43 inX4 (nt_lX hw (Nat.le_of_ble_eq_true rfl)) (nt_e43 hw) rfl (j := 1) (by decide) wd_307 (v := .ref (nt_a w 45)) rfl dX4_reaches_2 ?_
  refine nt_iload_n X dX4_reaches_5 rfl 1 rfl ?_
  obtain ⟨q1, h⟩ := nt_R_gd h
  refine nt_iald X 45 0 (nt_lX hw (Nat.le_of_ble_eq_true rfl)) (nt_e45 hw) (nt_tX hw) q1 dX4_reaches_6 ?_
  obtain ⟨r2, er2, h⟩ := nt_R_b1 h
  refine nt_cSNi X (As := [.int x2, .int (g 45 (Int32.toNatClampNeg x1))]) (cNt_isBelow hw er2) wd_336 nt_nm52 wd_335 wd_1 hd_X8_isBelow ⟨Nat.le_of_ble_eq_true rfl, Nat.le_of_ble_eq_true rfl⟩ ⟨Nat.le_refl 0, Nat.le_refl 0⟩ (Nat.le_of_ble_eq_true rfl) rfl dX4_reaches_7 ?_
  obtain ⟨q3, h⟩ := nt_R_gd h
  have h := nt_R_some h
  exact nt_zret X (of_decide_eq_true q3) dX4_reaches_10 (nt_pe h hg)
def fSs_hasRun (x1 : Int32) (x2 : Int32) (x3 : Int32) (g : nt_T) : Option (Int32) :=
  (if x3 < 0 then
    (some (0 : Int32))
  else
    (nt_gd (nt_in x1 4) <| (if (g 45 (Int32.toNatClampNeg x1)) < x3 then
    (some (0 : Int32))
  else
    ((if x2 < 0 then
    (some (0 : Int32))
  else
    (nt_gd (nt_in x1 4) <| (if ((g 45 (Int32.toNatClampNeg x1)) - x3) < x2 then
    (some (0 : Int32))
  else
    (some (1 : Int32)))))))))
set_option maxRecDepth 100000 in
set_option maxHeartbeats 4000000 in
theorem cSs_hasRun {l : Launch} {w : nt_w} (hw : nt_isX w) {x1 : Int32} {x2 : Int32} {x3 : Int32} {g : nt_T} {r : Int32} (hf : fSs_hasRun x1 x2 x3 g = some r) : nt_Mi l w yX4_hasRun cX4_hasRun 4 (some .boolean) 1 [.ref (nt_a w 43), .int x1, .int x2, .int x3] g r g := by
  refine nt_Mi_of (by decide) (Nat.le_of_ble_eq_true rfl) (fun p e s m args below meth c A X => ?_)
  have X : nt_X cX4_hasRun 4 RX4 (some .boolean) w A p s m args meth c := X
  have hg : g = g := rfl
  have h : nt_R (fSs_hasRun x1 x2 x3 g) (fun z => z = r) := ⟨_, hf, rfl⟩
  unfold fSs_hasRun at h
  show nt_G p l e (nt_rm 1) s m args below meth c w A 0 0 (nt_Qi w A below args s r g) 4 0 [(0, .ref (nt_a w 43)), (1, .int x1), (2, .int x2), (3, .int x3)] [] g
  refine nt_iload_n X dX4_hasRun_0 rfl 3 rfl ?_
  obtain ⟨ht, hf⟩ := nt_R_if h
  refine nt_if_lt X 34 dX4_hasRun_1 (by decide) (fun q1 => ?_) (fun q1 => ?_)
  · have h := ht q1
    refine nt_iconst X dX4_hasRun_34 nt_ci_0 ?_
    have h := nt_R_some h
    exact nt_zret X rfl dX4_hasRun_35 (nt_pe h hg)
  · have h := hf q1
    refine nt_iload_n X dX4_hasRun_4 rfl 3 rfl ?_
    refine nt_aload_n X dX4_hasRun_5 rfl 0 rfl ?_
    refine nt_get X 43 inX4 (nt_lX hw (Nat.le_of_ble_eq_true rfl)) (nt_e43 hw) rfl (j := 1) (by decide) wd_307 (v := .ref (nt_a w 45)) rfl dX4_hasRun_6 ?_
    refine nt_iload_n X dX4_hasRun_9 rfl 1 rfl ?_
    obtain ⟨q2, h⟩ := nt_R_gd h
    refine nt_iald X 45 0 (nt_lX hw (Nat.le_of_ble_eq_true rfl)) (nt_e45 hw) (nt_tX hw) q2 dX4_hasRun_10 ?_
    obtain ⟨ht, hf⟩ := nt_R_if h
    refine nt_icmp_gt X 34 dX4_hasRun_11 (by decide) (fun q3 => ?_) (fun q3 => ?_)
    · have h := ht q3
      refine nt_iconst X dX4_hasRun_34 nt_ci_0 ?_
      have h := nt_R_some h
      exact nt_zret X rfl dX4_hasRun_35 (nt_pe h hg)
    · have h := hf q3
      refine nt_iload_n X dX4_hasRun_14 rfl 2 rfl ?_
      obtain ⟨ht, hf⟩ := nt_R_if h
      refine nt_if_lt X 34 dX4_hasRun_15 (by decide) (fun q4 => ?_) (fun q4 => ?_)
      · have h := ht q4
        refine nt_iconst X dX4_hasRun_34 nt_ci_0 ?_
        have h := nt_R_some h
        exact nt_zret X rfl dX4_hasRun_35 (nt_pe h hg)
      · have h := hf q4
        refine nt_iload_n X dX4_hasRun_18 rfl 2 rfl ?_
        refine nt_aload_n X dX4_hasRun_19 rfl 0 rfl ?_
        refine nt_get X 43 inX4 (nt_lX hw (Nat.le_of_ble_eq_true rfl)) (nt_e43 hw) rfl (j := 1) (by decide) wd_307 (v := .ref (nt_a w 45)) rfl dX4_hasRun_20 ?_
        refine nt_iload_n X dX4_hasRun_23 rfl 1 rfl ?_
        obtain ⟨q5, h⟩ := nt_R_gd h
        refine nt_iald X 45 0 (nt_lX hw (Nat.le_of_ble_eq_true rfl)) (nt_e45 hw) (nt_tX hw) q5 dX4_hasRun_24 ?_
        refine nt_iload_n X dX4_hasRun_25 rfl 3 rfl ?_
        refine nt_isub X dX4_hasRun_26 ?_
        obtain ⟨ht, hf⟩ := nt_R_if h
        refine nt_icmp_gt X 34 dX4_hasRun_27 (by decide) (fun q6 => ?_) (fun q6 => ?_)
        · have h := ht q6
          refine nt_iconst X dX4_hasRun_34 nt_ci_0 ?_
          have h := nt_R_some h
          exact nt_zret X rfl dX4_hasRun_35 (nt_pe h hg)
        · have h := hf q6
          refine nt_iconst X dX4_hasRun_30 nt_ci_1 ?_
          refine nt_goto X 35 dX4_hasRun_31 (by decide) ?_
          have h := nt_R_some h
          exact nt_zret X rfl dX4_hasRun_35 (nt_pe h hg)
def bSs_lay_17 (x1 : Int32) (x4 : Int32) (g : nt_T) : Option ((Int32 × nt_T) ⊕ ((nt_T))) :=
  (if (40 : Int32) ≤ x4 then
    (some (.inr g))
  else
    (nt_gd (nt_in ((x1 * (40 : Int32)) + x4) 160) <| nt_lt (nt_st g 46 (Int32.toNatClampNeg ((x1 * (40 : Int32)) + x4)) (0 : Int32)) fun g7 => nt_lt (x4 + (1 : Int32)) fun v8 => some (.inl (v8, g7))))
set_option maxRecDepth 100000 in
set_option maxHeartbeats 4000000 in
theorem tbSs_lay_17 {p : Program} {l : Launch} {e : Env} {s : State} {m : MethodId} {args : Array Value} {below : List Frame} {meth : Method} {c : Code} {w : nt_w} {A : Nat → Prop} (hw : nt_isX w) {Q : State → Prop} (X : nt_X cX4_lay 5 RX4 none w A p s m args meth c) (x1 : Int32)  {Qx : ((nt_T)) → Prop} (hE0 : ∀ (gy : nt_T), Qx gy → nt_G p l e (nt_rm 1) s m args below meth c w A 0 0 Q 5 43 [(0, .ref (nt_a w 43)), (1, .int x1)] [] gy) : ∀ (n : Nat) (x4 : Int32) (g : nt_T), nt_R (nt_it (fun z => bSs_lay_17 x1 z.1 z.2) n (x4, g)) Qx → nt_G p l e (nt_rm 1) s m args below meth c w A 0 0 Q 5 17 [(0, .ref (nt_a w 43)), (1, .int x1), (4, .int x4)] [] g := by
  intro n
  induction n with
  | zero =>
    intro x4 g h
    exact nt_R_none h
  | succ n ih =>
    intro x4 g h
    have h : nt_R (bSs_lay_17 x1 x4 g) (nt_Qz (fun z => bSs_lay_17 x1 z.1 z.2) n Qx) := nt_R_it h
    have hI : ∀ (y4 : Int32) (gy : nt_T), nt_Qz (fun z => bSs_lay_17 x1 z.1 z.2) n Qx (.inl (y4, gy)) → nt_G p l e (nt_rm 1) s m args below meth c w A 0 0 Q 5 17 [(0, .ref (nt_a w 43)), (1, .int x1), (4, .int y4)] [] gy := fun y4 gy q => ih y4 gy q
    have hE0 : ∀ (gy : nt_T), nt_Qz (fun z => bSs_lay_17 x1 z.1 z.2) n Qx (.inr gy) → nt_G p l e (nt_rm 1) s m args below meth c w A 0 0 Q 5 43 [(0, .ref (nt_a w 43)), (1, .int x1)] [] gy := hE0
    generalize nt_Qz (fun z => bSs_lay_17 x1 z.1 z.2) n Qx = Qz at h hI hE0
    unfold bSs_lay_17 at h
    refine nt_iload X dX4_lay_17 2 rfl ?_
    refine nt_bipush X dX4_lay_19 nt_cb_40 ?_
    obtain ⟨ht, hf⟩ := nt_R_if h
    refine nt_icmp_ge X 43 dX4_lay_21 (by decide) (fun q5 => ?_) (fun q5 => ?_)
    · have h := ht q5
      refine nt_sub [0, 1] rfl ?_
      have h := nt_R_some h
      exact hE0 g h
    · have h := hf q5
      refine nt_aload_n X dX4_lay_24 rfl 0 rfl ?_
      refine nt_get X 43 inX4 (nt_lX hw (Nat.le_of_ble_eq_true rfl)) (nt_e43 hw) rfl (j := 2) (by decide) wd_308 (v := .ref (nt_a w 46)) rfl dX4_lay_25 ?_
      refine nt_iload_n X dX4_lay_28 rfl 1 rfl ?_
      refine nt_bipush X dX4_lay_29 nt_cb_40 ?_
      refine nt_imul X dX4_lay_31 ?_
      refine nt_iload X dX4_lay_32 2 rfl ?_
      refine nt_iadd X dX4_lay_34 ?_
      refine nt_iconst X dX4_lay_35 nt_ci_0 ?_
      obtain ⟨q6, h⟩ := nt_R_gd h
      refine nt_iast X 46 0 (nt_lX hw (Nat.le_of_ble_eq_true rfl)) (nt_e46 hw) (nt_tX hw) q6 dX4_lay_36 ?_
      obtain ⟨g7, eg7, h⟩ := nt_R_lt h
      refine nt_geq eg7 ?_
      obtain ⟨v8, ev8, h⟩ := nt_R_lt h
      refine nt_iinc X v8 [(4, .int v8), (0, .ref (nt_a w 43)), (1, .int x1)] dX4_lay_37 2 rfl (by rw [nt_ci_1]; exact ev8) (by decide) rfl ?_
      refine nt_goto X 17 dX4_lay_40 (by decide) ?_
      refine nt_sub [1, 2, 0] rfl ?_
      have h := nt_R_some h
      exact hI v8 g7 h
def fSs_lay (x1 : Int32) (x2 : Int32) (x3 : Int32) (g : nt_T) : Option (nt_T) :=
  nt_gd (nt_in x1 4) <| nt_lt (nt_st g 44 (Int32.toNatClampNeg x1) x2) fun g2 => nt_gd (nt_in x1 4) <| nt_lt (nt_st g2 45 (Int32.toNatClampNeg x1) x3) fun g4 => (nt_b1 (nt_it (fun z => bSs_lay_17 x1 z.1 z.2) nt_fu ((0 : Int32), g4)) fun g9 => some g9)
set_option maxRecDepth 100000 in
set_option maxHeartbeats 4000000 in
theorem cSs_lay {l : Launch} {w : nt_w} (hw : nt_isX w) {x1 : Int32} {x2 : Int32} {x3 : Int32} {g : nt_T} {g2 : nt_T} (hf : fSs_lay x1 x2 x3 g = some g2) : nt_Mv l w yX4_lay cX4_lay 5 none 1 [.ref (nt_a w 43), .int x1, .int x2, .int x3] g g2 := by
  refine nt_Mv_of (by decide) (Nat.le_of_ble_eq_true rfl) (fun p e s m args below meth c A X => ?_)
  have X : nt_X cX4_lay 5 RX4 none w A p s m args meth c := X
  have h : nt_R (fSs_lay x1 x2 x3 g) (fun z => z = g2) := ⟨_, hf, rfl⟩
  unfold fSs_lay at h
  show nt_G p l e (nt_rm 1) s m args below meth c w A 0 0 (nt_Qv w A below args s g2) 5 0 [(0, .ref (nt_a w 43)), (1, .int x1), (2, .int x2), (3, .int x3)] [] g
  refine nt_aload_n X dX4_lay_0 rfl 0 rfl ?_
  refine nt_get X 43 inX4 (nt_lX hw (Nat.le_of_ble_eq_true rfl)) (nt_e43 hw) rfl (j := 0) (by decide) wd_306 (v := .ref (nt_a w 44)) rfl dX4_lay_1 ?_
  refine nt_iload_n X dX4_lay_4 rfl 1 rfl ?_
  refine nt_iload_n X dX4_lay_5 rfl 2 rfl ?_
  obtain ⟨q1, h⟩ := nt_R_gd h
  refine nt_iast X 44 0 (nt_lX hw (Nat.le_of_ble_eq_true rfl)) (nt_e44 hw) (nt_tX hw) q1 dX4_lay_6 ?_
  obtain ⟨g2, eg2, h⟩ := nt_R_lt h
  refine nt_geq eg2 ?_
  refine nt_aload_n X dX4_lay_7 rfl 0 rfl ?_
  refine nt_get X 43 inX4 (nt_lX hw (Nat.le_of_ble_eq_true rfl)) (nt_e43 hw) rfl (j := 1) (by decide) wd_307 (v := .ref (nt_a w 45)) rfl dX4_lay_8 ?_
  refine nt_iload_n X dX4_lay_11 rfl 1 rfl ?_
  refine nt_iload_n X dX4_lay_12 rfl 3 rfl ?_
  obtain ⟨q3, h⟩ := nt_R_gd h
  refine nt_iast X 45 0 (nt_lX hw (Nat.le_of_ble_eq_true rfl)) (nt_e45 hw) (nt_tX hw) q3 dX4_lay_13 ?_
  obtain ⟨g4, eg4, h⟩ := nt_R_lt h
  refine nt_geq eg4 ?_
  refine nt_iconst X dX4_lay_14 nt_ci_0 ?_
  refine nt_istore X [(4, .int (0 : Int32)), (0, .ref (nt_a w 43)), (1, .int x1), (2, .int x2), (3, .int x3)] dX4_lay_15 (by decide) rfl ?_
  obtain ⟨z10, hz10, h⟩ := nt_R_b1 h
  refine nt_sub [1, 2, 0] rfl ?_
  refine tbSs_lay_17 hw X x1 (Qx := fun z => z = z10) (fun g9 hq => ?_) nt_fu (0 : Int32) g4 ⟨_, hz10, rfl⟩
  subst hq
  have h := nt_R_some h
  exact nt_vret X dX4_lay_43 h
def fSs_at (x1 : Int32) (x2 : Int32) (g : nt_T) : Option (Int32) :=
  nt_gd (nt_in ((x1 * (40 : Int32)) + x2) 160) <| some (g 46 (Int32.toNatClampNeg ((x1 * (40 : Int32)) + x2)))
set_option maxRecDepth 100000 in
set_option maxHeartbeats 4000000 in
theorem cSs_at {l : Launch} {w : nt_w} (hw : nt_isX w) {x1 : Int32} {x2 : Int32} {g : nt_T} {r : Int32} (hf : fSs_at x1 x2 g = some r) : nt_Mi l w yX4_at cX4_at 3 (some .int) 1 [.ref (nt_a w 43), .int x1, .int x2] g r g := by
  refine nt_Mi_of (by decide) (Nat.le_of_ble_eq_true rfl) (fun p e s m args below meth c A X => ?_)
  have X : nt_X cX4_at 3 RX4 (some .int) w A p s m args meth c := X
  have hg : g = g := rfl
  have h : nt_R (fSs_at x1 x2 g) (fun z => z = r) := ⟨_, hf, rfl⟩
  unfold fSs_at at h
  show nt_G p l e (nt_rm 1) s m args below meth c w A 0 0 (nt_Qi w A below args s r g) 3 0 [(0, .ref (nt_a w 43)), (1, .int x1), (2, .int x2)] [] g
  refine nt_aload_n X dX4_at_0 rfl 0 rfl ?_
  refine nt_get X 43 inX4 (nt_lX hw (Nat.le_of_ble_eq_true rfl)) (nt_e43 hw) rfl (j := 2) (by decide) wd_308 (v := .ref (nt_a w 46)) rfl dX4_at_1 ?_
  refine nt_iload_n X dX4_at_4 rfl 1 rfl ?_
  refine nt_bipush X dX4_at_5 nt_cb_40 ?_
  refine nt_imul X dX4_at_7 ?_
  refine nt_iload_n X dX4_at_8 rfl 2 rfl ?_
  refine nt_iadd X dX4_at_9 ?_
  obtain ⟨q1, h⟩ := nt_R_gd h
  refine nt_iald X 46 0 (nt_lX hw (Nat.le_of_ble_eq_true rfl)) (nt_e46 hw) (nt_tX hw) q1 dX4_at_10 ?_
  have h := nt_R_some h
  exact nt_iret X dX4_at_11 (nt_pe h hg)
def jSs_write_30 (x1 : Int32) (x2 : Int32) (s0 : Int32) (g : nt_T) : Option (nt_T) :=
  nt_gd (nt_in ((x1 * (40 : Int32)) + x2) 160) <| nt_lt (nt_st g 46 (Int32.toNatClampNeg ((x1 * (40 : Int32)) + x2)) s0) fun g6 => some g6
set_option maxRecDepth 100000 in
set_option maxHeartbeats 4000000 in
theorem tjSs_write_30 {p : Program} {l : Launch} {e : Env} {s : State} {m : MethodId} {args : Array Value} {below : List Frame} {meth : Method} {c : Code} {w : nt_w} {A : Nat → Prop} (hw : nt_isX w) {g2 : nt_T}  (X : nt_X cX4_write 5 RX4 none w A p s m args meth c) (x1 : Int32) (x2 : Int32) (s0 : Int32) (g : nt_T) (h : nt_R (jSs_write_30 x1 x2 s0 g) (fun z => z = g2)) : nt_G p l e (nt_rm 1) s m args below meth c w A 0 0 (nt_Qv w A below args s g2) 5 30 [(0, .ref (nt_a w 43)), (1, .int x1), (2, .int x2)] [.int s0] g := by
  unfold jSs_write_30 at h
  refine nt_istore X [(4, .int s0), (0, .ref (nt_a w 43)), (1, .int x1), (2, .int x2)] dX4_write_30 (by decide) rfl ?_
  refine nt_aload_n X dX4_write_32 rfl 1 rfl ?_
  refine nt_get X 43 inX4 (nt_lX hw (Nat.le_of_ble_eq_true rfl)) (nt_e43 hw) rfl (j := 2) (by decide) wd_308 (v := .ref (nt_a w 46)) rfl dX4_write_33 ?_
  refine nt_iload_n X dX4_write_36 rfl 2 rfl ?_
  refine nt_bipush X dX4_write_37 nt_cb_40 ?_
  refine nt_imul X dX4_write_39 ?_
  refine nt_iload_n X dX4_write_40 rfl 3 rfl ?_
  refine nt_iadd X dX4_write_41 ?_
  refine nt_iload X dX4_write_42 0 rfl ?_
  obtain ⟨q5, h⟩ := nt_R_gd h
  refine nt_iast X 46 0 (nt_lX hw (Nat.le_of_ble_eq_true rfl)) (nt_e46 hw) (nt_tX hw) q5 dX4_write_44 ?_
  obtain ⟨g6, eg6, h⟩ := nt_R_lt h
  refine nt_geq eg6 ?_
  have h := nt_R_some h
  exact nt_vret X dX4_write_45 h
def fSs_write (x1 : Int32) (x2 : Int32) (x3 : Int32) (g : nt_T) : Option (nt_T) :=
  nt_gd (nt_in x1 4) <| (if (g 44 (Int32.toNatClampNeg x1)) = 0 then
    (jSs_write_30 x1 x2 (nt_i8 x3) g)
  else
    (nt_gd (nt_in x1 4) <| (if (g 44 (Int32.toNatClampNeg x1)) = (1 : Int32) then
    (jSs_write_30 x1 x2 (nt_i16 x3) g)
  else
    (jSs_write_30 x1 x2 x3 g))))
set_option maxRecDepth 100000 in
set_option maxHeartbeats 4000000 in
theorem cSs_write {l : Launch} {w : nt_w} (hw : nt_isX w) {x1 : Int32} {x2 : Int32} {x3 : Int32} {g : nt_T} {g2 : nt_T} (hf : fSs_write x1 x2 x3 g = some g2) : nt_Mv l w yX4_write cX4_write 5 none 1 [.ref (nt_a w 43), .int x1, .int x2, .int x3] g g2 := by
  refine nt_Mv_of (by decide) (Nat.le_of_ble_eq_true rfl) (fun p e s m args below meth c A X => ?_)
  have X : nt_X cX4_write 5 RX4 none w A p s m args meth c := X
  have h : nt_R (fSs_write x1 x2 x3 g) (fun z => z = g2) := ⟨_, hf, rfl⟩
  unfold fSs_write at h
  show nt_G p l e (nt_rm 1) s m args below meth c w A 0 0 (nt_Qv w A below args s g2) 5 0 [(0, .ref (nt_a w 43)), (1, .int x1), (2, .int x2), (3, .int x3)] [] g
  refine nt_aload_n X dX4_write_0 rfl 0 rfl ?_
  refine nt_get X 43 inX4 (nt_lX hw (Nat.le_of_ble_eq_true rfl)) (nt_e43 hw) rfl (j := 0) (by decide) wd_306 (v := .ref (nt_a w 44)) rfl dX4_write_1 ?_
  refine nt_iload_n X dX4_write_4 rfl 1 rfl ?_
  obtain ⟨q1, h⟩ := nt_R_gd h
  refine nt_iald X 44 0 (nt_lX hw (Nat.le_of_ble_eq_true rfl)) (nt_e44 hw) (nt_tX hw) q1 dX4_write_5 ?_
  obtain ⟨ht, hf⟩ := nt_R_if h
  refine nt_if_ne X 14 dX4_write_6 (by decide) (fun q2 => ?_) (fun q2 => ?_)
  · have h := hf q2
    refine nt_aload_n X dX4_write_14 rfl 0 rfl ?_
    refine nt_get X 43 inX4 (nt_lX hw (Nat.le_of_ble_eq_true rfl)) (nt_e43 hw) rfl (j := 0) (by decide) wd_306 (v := .ref (nt_a w 44)) rfl dX4_write_15 ?_
    refine nt_iload_n X dX4_write_18 rfl 1 rfl ?_
    obtain ⟨q3, h⟩ := nt_R_gd h
    refine nt_iald X 44 0 (nt_lX hw (Nat.le_of_ble_eq_true rfl)) (nt_e44 hw) (nt_tX hw) q3 dX4_write_19 ?_
    refine nt_iconst X dX4_write_20 nt_ci_1 ?_
    obtain ⟨ht, hf⟩ := nt_R_if h
    refine nt_icmp_ne X 29 dX4_write_21 (by decide) (fun q4 => ?_) (fun q4 => ?_)
    · have h := hf q4
      refine nt_iload_n X dX4_write_29 rfl 3 rfl ?_
      refine nt_sub [0, 1, 2] rfl ?_
      exact tjSs_write_30 hw X x1 x2 x3 g h
    · have h := ht q4
      refine nt_iload_n X dX4_write_24 rfl 3 rfl ?_
      refine nt_i2s X (v := nt_i16 x3) dX4_write_25 rfl ?_
      refine nt_goto X 30 dX4_write_26 (by decide) ?_
      refine nt_sub [0, 1, 2] rfl ?_
      exact tjSs_write_30 hw X x1 x2 (nt_i16 x3) g h
  · have h := ht q2
    refine nt_iload_n X dX4_write_9 rfl 3 rfl ?_
    refine nt_i2b X (v := nt_i8 x3) dX4_write_10 rfl ?_
    refine nt_goto X 30 dX4_write_11 (by decide) ?_
    refine nt_sub [0, 1, 2] rfl ?_
    exact tjSs_write_30 hw X x1 x2 (nt_i8 x3) g h
def fSs_carry (x1 : Int32) (x2 : Int32) (x3 : Int32) (x4 : Int32) (x5 : Int32) (g : nt_T) : Option (nt_T) :=
  nt_gd (nt_cpok ((x1 * (40 : Int32)) + x2) ((x3 * (40 : Int32)) + x4) x5 160 160) <| nt_lt (nt_sc g 46 (va_cpy (g 46) (g 46) (Int32.toNatClampNeg ((x1 * (40 : Int32)) + x2)) (Int32.toNatClampNeg ((x3 * (40 : Int32)) + x4)) (Int32.toNatClampNeg x5))) fun g2 => some g2
set_option maxRecDepth 100000 in
set_option maxHeartbeats 4000000 in
theorem cSs_carry {l : Launch} {w : nt_w} (hw : nt_isX w) {x1 : Int32} {x2 : Int32} {x3 : Int32} {x4 : Int32} {x5 : Int32} {g : nt_T} {g2 : nt_T} (hf : fSs_carry x1 x2 x3 x4 x5 g = some g2) : nt_Mv l w yX4_carry cX4_carry 6 none 3 [.ref (nt_a w 43), .int x1, .int x2, .int x3, .int x4, .int x5] g g2 := by
  refine nt_Mv_of (by decide) (Nat.le_of_ble_eq_true rfl) (fun p e s m args below meth c A X => ?_)
  have X : nt_X cX4_carry 6 RX4 none w A p s m args meth c := X
  have h : nt_R (fSs_carry x1 x2 x3 x4 x5 g) (fun z => z = g2) := ⟨_, hf, rfl⟩
  unfold fSs_carry at h
  show nt_G p l e (nt_rm 3) s m args below meth c w A 0 0 (nt_Qv w A below args s g2) 6 0 [(0, .ref (nt_a w 43)), (1, .int x1), (2, .int x2), (3, .int x3), (4, .int x4), (5, .int x5)] [] g
  refine nt_aload_n X dX4_carry_0 rfl 0 rfl ?_
  refine nt_get X 43 inX4 (nt_lX hw (Nat.le_of_ble_eq_true rfl)) (nt_e43 hw) rfl (j := 2) (by decide) wd_308 (v := .ref (nt_a w 46)) rfl dX4_carry_1 ?_
  refine nt_iload_n X dX4_carry_4 rfl 1 rfl ?_
  refine nt_bipush X dX4_carry_5 nt_cb_40 ?_
  refine nt_imul X dX4_carry_7 ?_
  refine nt_iload_n X dX4_carry_8 rfl 2 rfl ?_
  refine nt_iadd X dX4_carry_9 ?_
  refine nt_aload_n X dX4_carry_10 rfl 0 rfl ?_
  refine nt_get X 43 inX4 (nt_lX hw (Nat.le_of_ble_eq_true rfl)) (nt_e43 hw) rfl (j := 2) (by decide) wd_308 (v := .ref (nt_a w 46)) rfl dX4_carry_11 ?_
  refine nt_iload_n X dX4_carry_14 rfl 3 rfl ?_
  refine nt_bipush X dX4_carry_15 nt_cb_40 ?_
  refine nt_imul X dX4_carry_17 ?_
  refine nt_iload X dX4_carry_18 4 rfl ?_
  refine nt_iadd X dX4_carry_20 ?_
  refine nt_iload X dX4_carry_21 5 rfl ?_
  obtain ⟨q1, h⟩ := nt_R_gd h
  refine nt_copy X wd_602 wd_230 wd_229 wd_12 46 46 0 (nt_lX hw (Nat.le_of_ble_eq_true rfl)) (nt_e46 hw) (nt_lX hw (Nat.le_of_ble_eq_true rfl)) (nt_e46 hw) (nt_tX hw) q1 ⟨Nat.le_of_ble_eq_true rfl, Nat.le_of_ble_eq_true rfl⟩ dX4_carry_23 ?_
  obtain ⟨g2, eg2, h⟩ := nt_R_lt h
  refine nt_geq eg2 ?_
  have h := nt_R_some h
  exact nt_vret X dX4_carry_26 h
