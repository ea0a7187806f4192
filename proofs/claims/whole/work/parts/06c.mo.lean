def jMo_part_48 (x2 : Int32) (g : nt_T) : Option (Int32 × nt_T) :=
  (if (g 0 32) = 0 then
    (nt_b1 (fMo_next g) fun g9 => some (x2, g9))
  else
    (some (x2, g)))
set_option maxRecDepth 100000 in
set_option maxHeartbeats 4000000 in
theorem tjMo_part_48 {p : Program} {l : Launch} {e : Env} {s : State} {m : MethodId} {args : Array Value} {below : List Frame} {meth : Method} {c : Code} {w : nt_w} {A : Nat → Prop} (hw : nt_isM w) {r : Int32} {g2 : nt_T}  (X : nt_X cX9_part 3 RX9 (some .int) w A p s m args meth c) (x2 : Int32) (g : nt_T) (h : nt_R (jMo_part_48 x2 g) (fun z => z = (r, g2))) : nt_G p l e (nt_rm 71) s m args below meth c w A 0 0 (nt_Qi w A below args s r g2) 3 48 [(0, .ref (nt_a w 0)), (2, .int x2)] [] g := by
  unfold jMo_part_48 at h
  refine nt_aload_n X dX9_part_48 rfl 0 rfl ?_
  refine nt_get X 0 inX9 (nt_lM hw (Nat.le_of_ble_eq_true rfl)) (nt_m0 hw) rfl (j := 32) (by decide) wd_654 (v := .int (g 0 32)) rfl dX9_part_49 ?_
  obtain ⟨ht, hf⟩ := nt_R_if h
  refine nt_if_ne X 59 dX9_part_52 (by decide) (fun q8 => ?_) (fun q8 => ?_)
  · have h := hf q8
    refine nt_iload_n X dX9_part_59 rfl 1 rfl ?_
    have h := nt_R_some h
    exact nt_iret X dX9_part_60 h
  · have h := ht q8
    refine nt_aload_n X dX9_part_55 rfl 0 rfl ?_
    obtain ⟨g9, eg9, h⟩ := nt_R_b1 h
    refine nt_cVv X (As := []) 0 (nt_lM hw (Nat.le_of_ble_eq_true rfl)) (nt_m0 hw) rfl (cMo_next hw eg9) wd_795 wd_793 wd_794 wd_1083 wd_16 rfl hd_X9_next ⟨Nat.le_of_ble_eq_true rfl, Nat.le_of_ble_eq_true rfl⟩ ⟨Nat.le_refl 0, Nat.le_refl 0⟩ (Nat.le_of_ble_eq_true rfl) rfl dX9_part_56 ?_
    refine nt_iload_n X dX9_part_59 rfl 1 rfl ?_
    have h := nt_R_some h
    exact nt_iret X dX9_part_60 h
def jMo_part_34 (s0 : Int32) (g : nt_T) : Option (Int32 × nt_T) :=
  nt_b1 (fMo_isSign (59 : Int32) g) fun r6 => (if r6 = 0 then
    (nt_b1 (fMo_fail g) fun g10 => jMo_part_48 s0 g10)
  else
    (jMo_part_48 s0 g))
set_option maxRecDepth 100000 in
set_option maxHeartbeats 4000000 in
theorem tjMo_part_34 {p : Program} {l : Launch} {e : Env} {s : State} {m : MethodId} {args : Array Value} {below : List Frame} {meth : Method} {c : Code} {w : nt_w} {A : Nat → Prop} (hw : nt_isM w) {r : Int32} {g2 : nt_T}  (X : nt_X cX9_part 3 RX9 (some .int) w A p s m args meth c) (s0 : Int32) (g : nt_T) (h : nt_R (jMo_part_34 s0 g) (fun z => z = (r, g2))) : nt_G p l e (nt_rm 71) s m args below meth c w A 0 0 (nt_Qi w A below args s r g2) 3 34 [(0, .ref (nt_a w 0))] [.int s0] g := by
  unfold jMo_part_34 at h
  refine nt_istore_n X [(2, .int s0), (0, .ref (nt_a w 0))] dX9_part_34 rfl (by decide) rfl ?_
  refine nt_aload_n X dX9_part_35 rfl 1 rfl ?_
  refine nt_bipush X dX9_part_36 nt_cb_59 ?_
  obtain ⟨r6, er6, h⟩ := nt_R_b1 h
  refine nt_cVi X (As := [.int (59 : Int32)]) 0 (nt_lM hw (Nat.le_of_ble_eq_true rfl)) (nt_m0 hw) rfl (cMo_isSign hw er6) wd_839 wd_837 wd_838 wd_1096 wd_16 rfl hd_X9_isSign ⟨Nat.le_of_ble_eq_true rfl, Nat.le_of_ble_eq_true rfl⟩ ⟨Nat.le_refl 0, Nat.le_refl 0⟩ (Nat.le_of_ble_eq_true rfl) rfl dX9_part_38 ?_
  obtain ⟨ht, hf⟩ := nt_R_if h
  refine nt_if_ne X 48 dX9_part_41 (by decide) (fun q7 => ?_) (fun q7 => ?_)
  · have h := hf q7
    refine nt_sub [1, 0] rfl ?_
    exact tjMo_part_48 hw X s0 g h
  · have h := ht q7
    refine nt_aload_n X dX9_part_44 rfl 1 rfl ?_
    obtain ⟨g10, eg10, h⟩ := nt_R_b1 h
    refine nt_cVv X (As := []) 0 (nt_lM hw (Nat.le_of_ble_eq_true rfl)) (nt_m0 hw) rfl (cMo_fail hw eg10) wd_815 wd_813 wd_814 wd_1088 wd_16 rfl hd_X9_fail ⟨Nat.le_of_ble_eq_true rfl, Nat.le_of_ble_eq_true rfl⟩ ⟨Nat.le_refl 0, Nat.le_refl 0⟩ (Nat.le_of_ble_eq_true rfl) rfl dX9_part_45 ?_
    refine nt_sub [1, 0] rfl ?_
    exact tjMo_part_48 hw X s0 g10 h
def jMo_part_19 (g : nt_T) : Option (Int32 × nt_T) :=
  (if (g 0 32) = 0 then
    (nt_b2 (fMo_either g) fun r4 g5 => jMo_part_34 r4 g5)
  else
    (jMo_part_34 (0 : Int32) g))
set_option maxRecDepth 100000 in
set_option maxHeartbeats 4000000 in
theorem tjMo_part_19 {p : Program} {l : Launch} {e : Env} {s : State} {m : MethodId} {args : Array Value} {below : List Frame} {meth : Method} {c : Code} {w : nt_w} {A : Nat → Prop} (hw : nt_isM w) {r : Int32} {g2 : nt_T}  (X : nt_X cX9_part 3 RX9 (some .int) w A p s m args meth c) (g : nt_T) (h : nt_R (jMo_part_19 g) (fun z => z = (r, g2))) : nt_G p l e (nt_rm 71) s m args below meth c w A 0 0 (nt_Qi w A below args s r g2) 3 19 [(0, .ref (nt_a w 0))] [] g := by
  unfold jMo_part_19 at h
  refine nt_aload_n X dX9_part_19 rfl 0 rfl ?_
  refine nt_get X 0 inX9 (nt_lM hw (Nat.le_of_ble_eq_true rfl)) (nt_m0 hw) rfl (j := 32) (by decide) wd_654 (v := .int (g 0 32)) rfl dX9_part_20 ?_
  obtain ⟨ht, hf⟩ := nt_R_if h
  refine nt_if_eq X 30 dX9_part_23 (by decide) (fun q3 => ?_) (fun q3 => ?_)
  · have h := ht q3
    refine nt_aload_n X dX9_part_30 rfl 0 rfl ?_
    obtain ⟨r4, g5, er4, h⟩ := nt_R_b2 h
    refine nt_cVi X (As := []) 0 (nt_lM hw (Nat.le_of_ble_eq_true rfl)) (nt_m0 hw) rfl (cMo_either hw er4) wd_818 wd_816 wd_817 wd_1089 wd_16 rfl hd_X9_either ⟨Nat.le_of_ble_eq_true rfl, Nat.le_of_ble_eq_true rfl⟩ ⟨Nat.le_refl 0, Nat.le_refl 0⟩ (Nat.le_of_ble_eq_true rfl) rfl dX9_part_31 ?_
    exact tjMo_part_34 hw X r4 g5 h
  · have h := hf q3
    refine nt_iconst X dX9_part_26 nt_ci_0 ?_
    refine nt_goto X 34 dX9_part_27 (by decide) ?_
    exact tjMo_part_34 hw X (0 : Int32) g h
def jMo_part_8 (g : nt_T) : Option (Int32 × nt_T) :=
  (if (g 0 32) = 0 then
    (nt_b1 (fMo_next g) fun g11 => jMo_part_19 g11)
  else
    (jMo_part_19 g))
set_option maxRecDepth 100000 in
set_option maxHeartbeats 4000000 in
theorem tjMo_part_8 {p : Program} {l : Launch} {e : Env} {s : State} {m : MethodId} {args : Array Value} {below : List Frame} {meth : Method} {c : Code} {w : nt_w} {A : Nat → Prop} (hw : nt_isM w) {r : Int32} {g2 : nt_T}  (X : nt_X cX9_part 3 RX9 (some .int) w A p s m args meth c) (g : nt_T) (h : nt_R (jMo_part_8 g) (fun z => z = (r, g2))) : nt_G p l e (nt_rm 71) s m args below meth c w A 0 0 (nt_Qi w A below args s r g2) 3 8 [(0, .ref (nt_a w 0))] [] g := by
  unfold jMo_part_8 at h
  refine nt_aload_n X dX9_part_8 rfl 0 rfl ?_
  refine nt_get X 0 inX9 (nt_lM hw (Nat.le_of_ble_eq_true rfl)) (nt_m0 hw) rfl (j := 32) (by decide) wd_654 (v := .int (g 0 32)) rfl dX9_part_9 ?_
  obtain ⟨ht, hf⟩ := nt_R_if h
  refine nt_if_ne X 19 dX9_part_12 (by decide) (fun q2 => ?_) (fun q2 => ?_)
  · have h := hf q2
    exact tjMo_part_19 hw X g h
  · have h := ht q2
    refine nt_aload_n X dX9_part_15 rfl 0 rfl ?_
    obtain ⟨g11, eg11, h⟩ := nt_R_b1 h
    refine nt_cVv X (As := []) 0 (nt_lM hw (Nat.le_of_ble_eq_true rfl)) (nt_m0 hw) rfl (cMo_next hw eg11) wd_795 wd_793 wd_794 wd_1083 wd_16 rfl hd_X9_next ⟨Nat.le_of_ble_eq_true rfl, Nat.le_of_ble_eq_true rfl⟩ ⟨Nat.le_refl 0, Nat.le_refl 0⟩ (Nat.le_of_ble_eq_true rfl) rfl dX9_part_16 ?_
    exact tjMo_part_19 hw X g11 h
def fMo_part (x1 : Int32) (g : nt_T) : Option (Int32 × nt_T) :=
  (if x1 = 0 then
    (nt_b1 (fMo_fail g) fun g12 => jMo_part_8 g12)
  else
    (jMo_part_8 g))
set_option maxRecDepth 100000 in
set_option maxHeartbeats 4000000 in
theorem cMo_part {l : Launch} {w : nt_w} (hw : nt_isM w) {x1 : Int32} {g : nt_T} {r : Int32} {g2 : nt_T} (hf : fMo_part x1 g = some (r, g2)) : nt_Mi l w yX9_part cX9_part 3 (some .int) 71 [.ref (nt_a w 0), .int x1] g r g2 := by
  refine nt_Mi_of (by decide) (Nat.le_of_ble_eq_true rfl) (fun p e s m args below meth c A X => ?_)
  have X : nt_X cX9_part 3 RX9 (some .int) w A p s m args meth c := X
  have h : nt_R (fMo_part x1 g) (fun z => z = (r, g2)) := ⟨_, hf, rfl⟩
  unfold fMo_part at h
  show nt_G p l e (nt_rm 71) s m args below meth c w A 0 0 (nt_Qi w A below args s r g2) 3 0 [(0, .ref (nt_a w 0)), (1, .int x1)] [] g
  refine nt_iload_n X dX9_part_0 rfl 1 rfl ?_
  obtain ⟨ht, hf⟩ := nt_R_if h
  refine nt_if_ne X 8 dX9_part_1 (by decide) (fun q1 => ?_) (fun q1 => ?_)
  · have h := hf q1
    refine nt_sub [0] rfl ?_
    exact tjMo_part_8 hw X g h
  · have h := ht q1
    refine nt_aload_n X dX9_part_4 rfl 0 rfl ?_
    obtain ⟨g12, eg12, h⟩ := nt_R_b1 h
    refine nt_cVv X (As := []) 0 (nt_lM hw (Nat.le_of_ble_eq_true rfl)) (nt_m0 hw) rfl (cMo_fail hw eg12) wd_815 wd_813 wd_814 wd_1088 wd_16 rfl hd_X9_fail ⟨Nat.le_of_ble_eq_true rfl, Nat.le_of_ble_eq_true rfl⟩ ⟨Nat.le_refl 0, Nat.le_refl 0⟩ (Nat.le_of_ble_eq_true rfl) rfl dX9_part_5 ?_
    refine nt_sub [0] rfl ?_
    exact tjMo_part_8 hw X g12 h
def jMo_read_145 (x2 : Int32) (x3 : Int32) (x4 : Int32) (x5 : Int32) (g : nt_T) : Option (Int32 × nt_T) :=
  (if x2 = 0 then
    (some (x3, g))
  else
    ((if x2 = (1 : Int32) then
    (some (x4, g))
  else
    (some (x5, g)))))
set_option maxRecDepth 100000 in
set_option maxHeartbeats 4000000 in
theorem tjMo_read_145 {p : Program} {l : Launch} {e : Env} {s : State} {m : MethodId} {args : Array Value} {below : List Frame} {meth : Method} {c : Code} {w : nt_w} {A : Nat → Prop} (hw : nt_isM w) {r : Int32} {g2 : nt_T}  (X : nt_X cX9_read 6 RX9 (some .int) w A p s m args meth c) (x2 : Int32) (x3 : Int32) (x4 : Int32) (x5 : Int32) (g : nt_T) (h : nt_R (jMo_read_145 x2 x3 x4 x5 g) (fun z => z = (r, g2))) : nt_G p l e (nt_rm 73) s m args below meth c w A 0 0 (nt_Qi w A below args s r g2) 6 145 [(0, .ref (nt_a w 0)), (2, .int x2), (3, .int x3), (4, .int x4), (5, .int x5)] [] g := by
  unfold jMo_read_145 at h
  refine nt_iload_n X dX9_read_145 rfl 1 rfl ?_
  obtain ⟨ht, hf⟩ := nt_R_if h
  refine nt_if_ne X 153 dX9_read_146 (by decide) (fun q20 => ?_) (fun q20 => ?_)
  · have h := hf q20
    refine nt_iload_n X dX9_read_153 rfl 1 rfl ?_
    refine nt_iconst X dX9_read_154 nt_ci_1 ?_
    obtain ⟨ht, hf⟩ := nt_R_if h
    refine nt_icmp_ne X 163 dX9_read_155 (by decide) (fun q21 => ?_) (fun q21 => ?_)
    · have h := hf q21
      refine nt_iload X dX9_read_163 4 rfl ?_
      have h := nt_R_some h
      exact nt_iret X dX9_read_165 h
    · have h := ht q21
      refine nt_iload X dX9_read_158 3 rfl ?_
      refine nt_goto X 165 dX9_read_160 (by decide) ?_
      have h := nt_R_some h
      exact nt_iret X dX9_read_165 h
  · have h := ht q20
    refine nt_iload_n X dX9_read_149 rfl 2 rfl ?_
    refine nt_goto X 165 dX9_read_150 (by decide) ?_
    have h := nt_R_some h
    exact nt_iret X dX9_read_165 h
def jMo_read_125 (x2 : Int32) (x3 : Int32) (x4 : Int32) (s0 : Int32) (g : nt_T) : Option (Int32 × nt_T) :=
  (if (g 0 32) = 0 then
    ((if (g 0 28) = 0 then
    (jMo_read_145 x2 x3 x4 s0 g)
  else
    (nt_b1 (fMo_fail g) fun g23 => jMo_read_145 x2 x3 x4 s0 g23)))
  else
    (jMo_read_145 x2 x3 x4 s0 g))
set_option maxRecDepth 100000 in
set_option maxHeartbeats 4000000 in
theorem tjMo_read_125 {p : Program} {l : Launch} {e : Env} {s : State} {m : MethodId} {args : Array Value} {below : List Frame} {meth : Method} {c : Code} {w : nt_w} {A : Nat → Prop} (hw : nt_isM w) {r : Int32} {g2 : nt_T}  (X : nt_X cX9_read 6 RX9 (some .int) w A p s m args meth c) (x2 : Int32) (x3 : Int32) (x4 : Int32) (s0 : Int32) (g : nt_T) (h : nt_R (jMo_read_125 x2 x3 x4 s0 g) (fun z => z = (r, g2))) : nt_G p l e (nt_rm 73) s m args below meth c w A 0 0 (nt_Qi w A below args s r g2) 6 125 [(0, .ref (nt_a w 0)), (2, .int x2), (3, .int x3), (4, .int x4)] [.int s0] g := by
  unfold jMo_read_125 at h
  refine nt_istore X [(5, .int s0), (0, .ref (nt_a w 0)), (2, .int x2), (3, .int x3), (4, .int x4)] dX9_read_125 (by decide) rfl ?_
  refine nt_aload_n X dX9_read_127 rfl 1 rfl ?_
  refine nt_get X 0 inX9 (nt_lM hw (Nat.le_of_ble_eq_true rfl)) (nt_m0 hw) rfl (j := 32) (by decide) wd_654 (v := .int (g 0 32)) rfl dX9_read_128 ?_
  obtain ⟨ht, hf⟩ := nt_R_if h
  refine nt_if_ne X 145 dX9_read_131 (by decide) (fun q19 => ?_) (fun q19 => ?_)
  · have h := hf q19
    refine nt_sub [1, 2, 3, 4, 0] rfl ?_
    exact tjMo_read_145 hw X x2 x3 x4 s0 g h
  · have h := ht q19
    refine nt_aload_n X dX9_read_134 rfl 1 rfl ?_
    refine nt_get X 0 inX9 (nt_lM hw (Nat.le_of_ble_eq_true rfl)) (nt_m0 hw) rfl (j := 28) (by decide) wd_650 (v := .int (g 0 28)) rfl dX9_read_135 ?_
    obtain ⟨ht, hf⟩ := nt_R_if h
    refine nt_if_eq X 145 dX9_read_138 (by decide) (fun q22 => ?_) (fun q22 => ?_)
    · have h := ht q22
      refine nt_sub [1, 2, 3, 4, 0] rfl ?_
      exact tjMo_read_145 hw X x2 x3 x4 s0 g h
    · have h := hf q22
      refine nt_aload_n X dX9_read_141 rfl 1 rfl ?_
      obtain ⟨g23, eg23, h⟩ := nt_R_b1 h
      refine nt_cVv X (As := []) 0 (nt_lM hw (Nat.le_of_ble_eq_true rfl)) (nt_m0 hw) rfl (cMo_fail hw eg23) wd_815 wd_813 wd_814 wd_1088 wd_16 rfl hd_X9_fail ⟨Nat.le_of_ble_eq_true rfl, Nat.le_of_ble_eq_true rfl⟩ ⟨Nat.le_refl 0, Nat.le_refl 0⟩ (Nat.le_of_ble_eq_true rfl) rfl dX9_read_142 ?_
      refine nt_sub [1, 2, 3, 4, 0] rfl ?_
      exact tjMo_read_145 hw X x2 x3 x4 s0 g23 h
def jMo_read_91 (x2 : Int32) (x3 : Int32) (s0 : Int32) (g : nt_T) : Option (Int32 × nt_T) :=
  (if (g 0 32) = 0 then
    (nt_b1 (fMo_isWord (116 : Int32) (105 : Int32) (114 : Int32) (101 : Int32) (115 : Int32) (0 : Int32) (0 : Int32) (0 : Int32) g) fun r16 => nt_b2 (fMo_part r16 g) fun r17 g18 => jMo_read_125 x2 x3 s0 r17 g18)
  else
    (jMo_read_125 x2 x3 s0 (0 : Int32) g))
set_option maxRecDepth 100000 in
set_option maxHeartbeats 4000000 in
theorem tjMo_read_91 {p : Program} {l : Launch} {e : Env} {s : State} {m : MethodId} {args : Array Value} {below : List Frame} {meth : Method} {c : Code} {w : nt_w} {A : Nat → Prop} (hw : nt_isM w) {r : Int32} {g2 : nt_T}  (X : nt_X cX9_read 6 RX9 (some .int) w A p s m args meth c) (x2 : Int32) (x3 : Int32) (s0 : Int32) (g : nt_T) (h : nt_R (jMo_read_91 x2 x3 s0 g) (fun z => z = (r, g2))) : nt_G p l e (nt_rm 73) s m args below meth c w A 0 0 (nt_Qi w A below args s r g2) 6 91 [(0, .ref (nt_a w 0)), (2, .int x2), (3, .int x3)] [.int s0] g := by
  unfold jMo_read_91 at h
  refine nt_istore X [(4, .int s0), (0, .ref (nt_a w 0)), (2, .int x2), (3, .int x3)] dX9_read_91 (by decide) rfl ?_
  refine nt_aload_n X dX9_read_93 rfl 1 rfl ?_
  refine nt_get X 0 inX9 (nt_lM hw (Nat.le_of_ble_eq_true rfl)) (nt_m0 hw) rfl (j := 32) (by decide) wd_654 (v := .int (g 0 32)) rfl dX9_read_94 ?_
  obtain ⟨ht, hf⟩ := nt_R_if h
  refine nt_if_eq X 104 dX9_read_97 (by decide) (fun q15 => ?_) (fun q15 => ?_)
  · have h := ht q15
    refine nt_aload_n X dX9_read_104 rfl 1 rfl ?_
    refine nt_aload_n X dX9_read_105 rfl 1 rfl ?_
    refine nt_bipush X dX9_read_106 nt_cb_116 ?_
    refine nt_bipush X dX9_read_108 nt_cb_105 ?_
    refine nt_bipush X dX9_read_110 nt_cb_114 ?_
    refine nt_bipush X dX9_read_112 nt_cb_101 ?_
    refine nt_bipush X dX9_read_114 nt_cb_115 ?_
    refine nt_iconst X dX9_read_116 nt_ci_0 ?_
    refine nt_iconst X dX9_read_117 nt_ci_0 ?_
    refine nt_iconst X dX9_read_118 nt_ci_0 ?_
    obtain ⟨r16, er16, h⟩ := nt_R_b1 h
    refine nt_cVi X (As := [.int (116 : Int32), .int (105 : Int32), .int (114 : Int32), .int (101 : Int32), .int (115 : Int32), .int (0 : Int32), .int (0 : Int32), .int (0 : Int32)]) 0 (nt_lM hw (Nat.le_of_ble_eq_true rfl)) (nt_m0 hw) rfl (cMo_isWord hw er16) wd_806 wd_804 wd_805 wd_1085 wd_16 rfl hd_X9_isWord ⟨Nat.le_of_ble_eq_true rfl, Nat.le_of_ble_eq_true rfl⟩ ⟨Nat.le_refl 0, Nat.le_refl 0⟩ (Nat.le_of_ble_eq_true rfl) rfl dX9_read_119 ?_
    obtain ⟨r17, g18, er17, h⟩ := nt_R_b2 h
    refine nt_cVi X (As := [.int r16]) 0 (nt_lM hw (Nat.le_of_ble_eq_true rfl)) (nt_m0 hw) rfl (cMo_part hw er17) wd_812 wd_810 wd_811 wd_1087 wd_16 rfl hd_X9_part ⟨Nat.le_of_ble_eq_true rfl, Nat.le_of_ble_eq_true rfl⟩ ⟨Nat.le_refl 0, Nat.le_refl 0⟩ (Nat.le_of_ble_eq_true rfl) rfl dX9_read_122 ?_
    refine nt_sub [1, 2, 3, 0] rfl ?_
    exact tjMo_read_125 hw X x2 x3 s0 r17 g18 h
  · have h := hf q15
    refine nt_iconst X dX9_read_100 nt_ci_0 ?_
    refine nt_goto X 125 dX9_read_101 (by decide) ?_
    refine nt_sub [1, 2, 3, 0] rfl ?_
    exact tjMo_read_125 hw X x2 x3 s0 (0 : Int32) g h
def fMo_read (x1 : Int32) (x2 : Int32) (g : nt_T) : Option (Int32 × nt_T) :=
  nt_lt (nt_st g 0 25 ((160 : Int32) * x1)) fun g1 => nt_gd (nt_in x1 6) <| nt_lt (nt_st g1 0 26 (g1 2 (Int32.toNatClampNeg x1))) fun g3 => nt_lt (nt_st g3 0 27 (0 : Int32)) fun g4 => nt_lt (nt_st g4 0 31 (0 : Int32)) fun g5 => nt_lt (nt_st g5 0 32 (0 : Int32)) fun g6 => nt_b1 (fMo_next g6) fun g7 => nt_b1 (fMo_isWord (108 : Int32) (105 : Int32) (107 : Int32) (101 : Int32) (115 : Int32) (0 : Int32) (0 : Int32) (0 : Int32) g7) fun r8 => nt_b2 (fMo_part r8 g7) fun r9 g10 => (if (g10 0 32) = 0 then
    (nt_b1 (fMo_isWord (112 : Int32) (97 : Int32) (121 : Int32) (115 : Int32) (0 : Int32) (0 : Int32) (0 : Int32) (0 : Int32) g10) fun r12 => nt_b2 (fMo_part r12 g10) fun r13 g14 => jMo_read_91 x2 r9 r13 g14)
  else
    (jMo_read_91 x2 r9 (0 : Int32) g10))
set_option maxRecDepth 100000 in
set_option maxHeartbeats 4000000 in
theorem cMo_read {l : Launch} {w : nt_w} (hw : nt_isM w) {x1 : Int32} {x2 : Int32} {g : nt_T} {r : Int32} {g2 : nt_T} (hf : fMo_read x1 x2 g = some (r, g2)) : nt_Mi l w yX9_read cX9_read 6 (some .int) 73 [.ref (nt_a w 0), .int x1, .int x2] g r g2 := by
  refine nt_Mi_of (by decide) (Nat.le_of_ble_eq_true rfl) (fun p e s m args below meth c A X => ?_)
  have X : nt_X cX9_read 6 RX9 (some .int) w A p s m args meth c := X
  have h : nt_R (fMo_read x1 x2 g) (fun z => z = (r, g2)) := ⟨_, hf, rfl⟩
  unfold fMo_read at h
  show nt_G p l e (nt_rm 73) s m args below meth c w A 0 0 (nt_Qi w A below args s r g2) 6 0 [(0, .ref (nt_a w 0)), (1, .int x1), (2, .int x2)] [] g
  refine nt_aload_n X dX9_read_0 rfl 0 rfl ?_
  refine nt_sipush X dX9_read_1 nt_cs_160 ?_
  refine nt_iload_n X dX9_read_4 rfl 1 rfl ?_
  refine nt_imul X dX9_read_5 ?_
  refine nt_put X 0 inX9 (nt_lM hw (Nat.le_of_ble_eq_true rfl)) (nt_m0 hw) rfl (j := 25) (by decide) wd_647 tyX9 tyX9_ok nmX9 rfl (ty := .int) rfl rfl rfl (fun _ => Nat.le_of_ble_eq_true rfl) (fun _ => rfl) dX9_read_6 ?_
  obtain ⟨g1, eg1, h⟩ := nt_R_lt h
  refine nt_geq eg1 ?_
  refine nt_aload_n X dX9_read_9 rfl 0 rfl ?_
  refine nt_aload_n X dX9_read_10 rfl 0 rfl ?_
  refine nt_get X 0 inX9 (nt_lM hw (Nat.le_of_ble_eq_true rfl)) (nt_m0 hw) rfl (j := 2) (by decide) wd_624 (v := .ref (nt_a w 2)) rfl dX9_read_11 ?_
  refine nt_iload_n X dX9_read_14 rfl 1 rfl ?_
  obtain ⟨q2, h⟩ := nt_R_gd h
  refine nt_iald X 2 0 (nt_lM hw (Nat.le_of_ble_eq_true rfl)) (nt_m2 hw) (nt_tM hw) q2 dX9_read_15 ?_
  refine nt_put X 0 inX9 (nt_lM hw (Nat.le_of_ble_eq_true rfl)) (nt_m0 hw) rfl (j := 26) (by decide) wd_648 tyX9 tyX9_ok nmX9 rfl (ty := .int) rfl rfl rfl (fun _ => Nat.le_of_ble_eq_true rfl) (fun _ => rfl) dX9_read_16 ?_
  obtain ⟨g3, eg3, h⟩ := nt_R_lt h
  refine nt_geq eg3 ?_
  refine nt_aload_n X dX9_read_19 rfl 0 rfl ?_
  refine nt_iconst X dX9_read_20 nt_ci_0 ?_
  refine nt_put X 0 inX9 (nt_lM hw (Nat.le_of_ble_eq_true rfl)) (nt_m0 hw) rfl (j := 27) (by decide) wd_649 tyX9 tyX9_ok nmX9 rfl (ty := .int) rfl rfl rfl (fun _ => Nat.le_of_ble_eq_true rfl) (fun _ => rfl) dX9_read_21 ?_
  obtain ⟨g4, eg4, h⟩ := nt_R_lt h
  refine nt_geq eg4 ?_
  refine nt_aload_n X dX9_read_24 rfl 0 rfl ?_
  refine nt_iconst X dX9_read_25 nt_ci_0 ?_
  refine nt_put X 0 inX9 (nt_lM hw (Nat.le_of_ble_eq_true rfl)) (nt_m0 hw) rfl (j := 31) (by decide) wd_653 tyX9 tyX9_ok nmX9 rfl (ty := .int) rfl rfl rfl (fun _ => Nat.le_of_ble_eq_true rfl) (fun _ => rfl) dX9_read_26 ?_
  obtain ⟨g5, eg5, h⟩ := nt_R_lt h
  refine nt_geq eg5 ?_
  refine nt_aload_n X dX9_read_29 rfl 0 rfl ?_
  refine nt_iconst X dX9_read_30 nt_ci_0 ?_
  refine nt_put X 0 inX9 (nt_lM hw (Nat.le_of_ble_eq_true rfl)) (nt_m0 hw) rfl (j := 32) (by decide) wd_654 tyX9 tyX9_ok nmX9 rfl (ty := .boolean) rfl rfl rfl (fun _ => Nat.le_of_ble_eq_true rfl) (fun _ => rfl) dX9_read_31 ?_
  obtain ⟨g6, eg6, h⟩ := nt_R_lt h
  refine nt_geq eg6 ?_
  refine nt_aload_n X dX9_read_34 rfl 0 rfl ?_
  obtain ⟨g7, eg7, h⟩ := nt_R_b1 h
  refine nt_cVv X (As := []) 0 (nt_lM hw (Nat.le_of_ble_eq_true rfl)) (nt_m0 hw) rfl (cMo_next hw eg7) wd_795 wd_793 wd_794 wd_1083 wd_16 rfl hd_X9_next ⟨Nat.le_of_ble_eq_true rfl, Nat.le_of_ble_eq_true rfl⟩ ⟨Nat.le_refl 0, Nat.le_refl 0⟩ (Nat.le_of_ble_eq_true rfl) rfl dX9_read_35 ?_
  refine nt_aload_n X dX9_read_38 rfl 0 rfl ?_
  refine nt_aload_n X dX9_read_39 rfl 0 rfl ?_
  refine nt_bipush X dX9_read_40 nt_cb_108 ?_
  refine nt_bipush X dX9_read_42 nt_cb_105 ?_
  refine nt_bipush X dX9_read_44 nt_cb_107 ?_
  refine nt_bipush X dX9_read_46 nt_cb_101 ?_
  refine nt_bipush X dX9_read_48 nt_cb_115 ?_
  refine nt_iconst X dX9_read_50 nt_ci_0 ?_
  refine nt_iconst X dX9_read_51 nt_ci_0 ?_
  refine nt_iconst X dX9_read_52 nt_ci_0 ?_
  obtain ⟨r8, er8, h⟩ := nt_R_b1 h
  refine nt_cVi X (As := [.int (108 : Int32), .int (105 : Int32), .int (107 : Int32), .int (101 : Int32), .int (115 : Int32), .int (0 : Int32), .int (0 : Int32), .int (0 : Int32)]) 0 (nt_lM hw (Nat.le_of_ble_eq_true rfl)) (nt_m0 hw) rfl (cMo_isWord hw er8) wd_806 wd_804 wd_805 wd_1085 wd_16 rfl hd_X9_isWord ⟨Nat.le_of_ble_eq_true rfl, Nat.le_of_ble_eq_true rfl⟩ ⟨Nat.le_refl 0, Nat.le_refl 0⟩ (Nat.le_of_ble_eq_true rfl) rfl dX9_read_53 ?_
  obtain ⟨r9, g10, er9, h⟩ := nt_R_b2 h
  refine nt_cVi X (As := [.int r8]) 0 (nt_lM hw (Nat.le_of_ble_eq_true rfl)) (nt_m0 hw) rfl (cMo_part hw er9) wd_812 wd_810 wd_811 wd_1087 wd_16 rfl hd_X9_part ⟨Nat.le_of_ble_eq_true rfl, Nat.le_of_ble_eq_true rfl⟩ ⟨Nat.le_refl 0, Nat.le_refl 0⟩ (Nat.le_of_ble_eq_true rfl) rfl dX9_read_56 ?_
  refine nt_istore_n X [(3, .int r9), (0, .ref (nt_a w 0)), (1, .int x1), (2, .int x2)] dX9_read_59 rfl (by decide) rfl ?_
  refine nt_aload_n X dX9_read_60 rfl 1 rfl ?_
  refine nt_get X 0 inX9 (nt_lM hw (Nat.le_of_ble_eq_true rfl)) (nt_m0 hw) rfl (j := 32) (by decide) wd_654 (v := .int (g10 0 32)) rfl dX9_read_61 ?_
  obtain ⟨ht, hf⟩ := nt_R_if h
  refine nt_if_eq X 71 dX9_read_64 (by decide) (fun q11 => ?_) (fun q11 => ?_)
  · have h := ht q11
    refine nt_aload_n X dX9_read_71 rfl 1 rfl ?_
    refine nt_aload_n X dX9_read_72 rfl 1 rfl ?_
    refine nt_bipush X dX9_read_73 nt_cb_112 ?_
    refine nt_bipush X dX9_read_75 nt_cb_97 ?_
    refine nt_bipush X dX9_read_77 nt_cb_121 ?_
    refine nt_bipush X dX9_read_79 nt_cb_115 ?_
    refine nt_iconst X dX9_read_81 nt_ci_0 ?_
    refine nt_iconst X dX9_read_82 nt_ci_0 ?_
    refine nt_iconst X dX9_read_83 nt_ci_0 ?_
    refine nt_iconst X dX9_read_84 nt_ci_0 ?_
    obtain ⟨r12, er12, h⟩ := nt_R_b1 h
    refine nt_cVi X (As := [.int (112 : Int32), .int (97 : Int32), .int (121 : Int32), .int (115 : Int32), .int (0 : Int32), .int (0 : Int32), .int (0 : Int32), .int (0 : Int32)]) 0 (nt_lM hw (Nat.le_of_ble_eq_true rfl)) (nt_m0 hw) rfl (cMo_isWord hw er12) wd_806 wd_804 wd_805 wd_1085 wd_16 rfl hd_X9_isWord ⟨Nat.le_of_ble_eq_true rfl, Nat.le_of_ble_eq_true rfl⟩ ⟨Nat.le_refl 0, Nat.le_refl 0⟩ (Nat.le_of_ble_eq_true rfl) rfl dX9_read_85 ?_
    obtain ⟨r13, g14, er13, h⟩ := nt_R_b2 h
    refine nt_cVi X (As := [.int r12]) 0 (nt_lM hw (Nat.le_of_ble_eq_true rfl)) (nt_m0 hw) rfl (cMo_part hw er13) wd_812 wd_810 wd_811 wd_1087 wd_16 rfl hd_X9_part ⟨Nat.le_of_ble_eq_true rfl, Nat.le_of_ble_eq_true rfl⟩ ⟨Nat.le_refl 0, Nat.le_refl 0⟩ (Nat.le_of_ble_eq_true rfl) rfl dX9_read_88 ?_
    refine nt_sub [1, 3, 0] rfl ?_
    exact tjMo_read_91 hw X x2 r9 r13 g14 h
  · have h := hf q11
    refine nt_iconst X dX9_read_67 nt_ci_0 ?_
    refine nt_goto X 91 dX9_read_68 (by decide) ?_
    refine nt_sub [1, 3, 0] rfl ?_
    exact tjMo_read_91 hw X x2 r9 (0 : Int32) g10 h
def bMo_text_14 (x1 : Int32) (g : nt_T) : Option ((Int32 × nt_T) ⊕ ((nt_T))) :=
  (if (g 0 6) ≤ x1 then
    (some (.inr g))
  else
    (nt_gd (nt_in x1 160) <| nt_gd (nt_in (((160 : Int32) * (g 0 3)) + x1) 960) <| nt_lt (nt_st g 1 (Int32.toNatClampNeg (((160 : Int32) * (g 0 3)) + x1)) (g 3 (Int32.toNatClampNeg x1))) fun g5 => nt_lt (x1 + (1 : Int32)) fun v6 => some (.inl (v6, g5))))
set_option maxRecDepth 100000 in
set_option maxHeartbeats 4000000 in
theorem tbMo_text_14 {p : Program} {l : Launch} {e : Env} {s : State} {m : MethodId} {args : Array Value} {below : List Frame} {meth : Method} {c : Code} {w : nt_w} {A : Nat → Prop} (hw : nt_isM w) {Q : State → Prop} (X : nt_X cX9_text 2 RX9 (some .int) w A p s m args meth c)  {Qx : ((nt_T)) → Prop} (hE0 : ∀ (gy : nt_T), Qx gy → nt_G p l e (nt_rm 75) s m args below meth c w A 0 0 Q 2 49 [(0, .ref (nt_a w 0))] [] gy) : ∀ (n : Nat) (x1 : Int32) (g : nt_T), nt_R (nt_it (fun z => bMo_text_14 z.1 z.2) n (x1, g)) Qx → nt_G p l e (nt_rm 75) s m args below meth c w A 0 0 Q 2 14 [(0, .ref (nt_a w 0)), (1, .int x1)] [] g := by
  intro n
  induction n with
  | zero =>
    intro x1 g h
    exact nt_R_none h
  | succ n ih =>
    intro x1 g h
    have h : nt_R (bMo_text_14 x1 g) (nt_Qz (fun z => bMo_text_14 z.1 z.2) n Qx) := nt_R_it h
    have hI : ∀ (y1 : Int32) (gy : nt_T), nt_Qz (fun z => bMo_text_14 z.1 z.2) n Qx (.inl (y1, gy)) → nt_G p l e (nt_rm 75) s m args below meth c w A 0 0 Q 2 14 [(0, .ref (nt_a w 0)), (1, .int y1)] [] gy := fun y1 gy q => ih y1 gy q
    have hE0 : ∀ (gy : nt_T), nt_Qz (fun z => bMo_text_14 z.1 z.2) n Qx (.inr gy) → nt_G p l e (nt_rm 75) s m args below meth c w A 0 0 Q 2 49 [(0, .ref (nt_a w 0))] [] gy := hE0
    generalize nt_Qz (fun z => bMo_text_14 z.1 z.2) n Qx = Qz at h hI hE0
    unfold bMo_text_14 at h
    refine nt_iload_n X dX9_text_14 rfl 1 rfl ?_
    refine nt_aload_n X dX9_text_15 rfl 0 rfl ?_
    refine nt_get X 0 inX9 (nt_lM hw (Nat.le_of_ble_eq_true rfl)) (nt_m0 hw) rfl (j := 6) (by decide) wd_628 (v := .int (g 0 6)) rfl dX9_text_16 ?_
    obtain ⟨ht, hf⟩ := nt_R_if h
    refine nt_icmp_ge X 49 dX9_text_19 (by decide) (fun q2 => ?_) (fun q2 => ?_)
    · have h := ht q2
      refine nt_sub [0] rfl ?_
      have h := nt_R_some h
      exact hE0 g h
    · have h := hf q2
      refine nt_aload_n X dX9_text_22 rfl 0 rfl ?_
      refine nt_get X 0 inX9 (nt_lM hw (Nat.le_of_ble_eq_true rfl)) (nt_m0 hw) rfl (j := 1) (by decide) wd_623 (v := .ref (nt_a w 1)) rfl dX9_text_23 ?_
      refine nt_sipush X dX9_text_26 nt_cs_160 ?_
      refine nt_aload_n X dX9_text_29 rfl 0 rfl ?_
      refine nt_get X 0 inX9 (nt_lM hw (Nat.le_of_ble_eq_true rfl)) (nt_m0 hw) rfl (j := 3) (by decide) wd_625 (v := .int (g 0 3)) rfl dX9_text_30 ?_
      refine nt_imul X dX9_text_33 ?_
      refine nt_iload_n X dX9_text_34 rfl 1 rfl ?_
      refine nt_iadd X dX9_text_35 ?_
      refine nt_aload_n X dX9_text_36 rfl 0 rfl ?_
      refine nt_get X 0 inX9 (nt_lM hw (Nat.le_of_ble_eq_true rfl)) (nt_m0 hw) rfl (j := 5) (by decide) wd_627 (v := .ref (nt_a w 3)) rfl dX9_text_37 ?_
      refine nt_iload_n X dX9_text_40 rfl 1 rfl ?_
      obtain ⟨q3, h⟩ := nt_R_gd h
      refine nt_iald X 3 0 (nt_lM hw (Nat.le_of_ble_eq_true rfl)) (nt_m3 hw) (nt_tM hw) q3 dX9_text_41 ?_
      obtain ⟨q4, h⟩ := nt_R_gd h
      refine nt_iast X 1 0 (nt_lM hw (Nat.le_of_ble_eq_true rfl)) (nt_m1 hw) (nt_tM hw) q4 dX9_text_42 ?_
      obtain ⟨g5, eg5, h⟩ := nt_R_lt h
      refine nt_geq eg5 ?_
      obtain ⟨v6, ev6, h⟩ := nt_R_lt h
      refine nt_iinc X v6 [(1, .int v6), (0, .ref (nt_a w 0))] dX9_text_43 1 rfl (by rw [nt_ci_1]; exact ev6) (by decide) rfl ?_
      refine nt_goto X 14 dX9_text_46 (by decide) ?_
      refine nt_sub [1, 0] rfl ?_
      have h := nt_R_some h
      exact hI v6 g5 h
def fMo_text (g : nt_T) : Option (Int32 × nt_T) :=
  (if (g 0 3) = (6 : Int32) then
    (some ((-4 : Int32), g))
  else
    ((nt_b1 (nt_it (fun z => bMo_text_14 z.1 z.2) nt_fu ((0 : Int32), g)) fun g7 => nt_gd (nt_in (g7 0 3) 6) <| nt_lt (nt_st g7 2 (Int32.toNatClampNeg (g7 0 3)) (g7 0 6)) fun g9 => nt_lt (nt_st g9 0 6 (0 : Int32)) fun g10 => nt_b2 (fMo_read (g10 0 3) (0 : Int32) g10) fun r11 g12 => (if (g12 0 32) = 0 then
    (nt_lt (nt_st g12 0 3 ((g12 0 3) + (1 : Int32))) fun g14 => some (((g14 0 3) - (1 : Int32)), g14))
  else
    (some (((-100 : Int32) - (g12 0 33)), g12))))))
set_option maxRecDepth 100000 in
set_option maxHeartbeats 4000000 in
theorem cMo_text {l : Launch} {w : nt_w} (hw : nt_isM w) {g : nt_T} {r : Int32} {g2 : nt_T} (hf : fMo_text g = some (r, g2)) : nt_Mi l w yX9_text cX9_text 2 (some .int) 75 [.ref (nt_a w 0)] g r g2 := by
  refine nt_Mi_of (by decide) (Nat.le_of_ble_eq_true rfl) (fun p e s m args below meth c A X => ?_)
  have X : nt_X cX9_text 2 RX9 (some .int) w A p s m args meth c := X
  have h : nt_R (fMo_text g) (fun z => z = (r, g2)) := ⟨_, hf, rfl⟩
  unfold fMo_text at h
  show nt_G p l e (nt_rm 75) s m args below meth c w A 0 0 (nt_Qi w A below args s r g2) 2 0 [(0, .ref (nt_a w 0))] [] g
  refine nt_aload_n X dX9_text_0 rfl 0 rfl ?_
  refine nt_get X 0 inX9 (nt_lM hw (Nat.le_of_ble_eq_true rfl)) (nt_m0 hw) rfl (j := 3) (by decide) wd_625 (v := .int (g 0 3)) rfl dX9_text_1 ?_
  refine nt_bipush X dX9_text_4 nt_cb_6 ?_
  obtain ⟨ht, hf⟩ := nt_R_if h
  refine nt_icmp_ne X 12 dX9_text_6 (by decide) (fun q1 => ?_) (fun q1 => ?_)
  · have h := hf q1
    refine nt_iconst X dX9_text_12 nt_ci_0 ?_
    refine nt_istore_n X [(1, .int (0 : Int32)), (0, .ref (nt_a w 0))] dX9_text_13 rfl (by decide) rfl ?_
    obtain ⟨z15, hz15, h⟩ := nt_R_b1 h
    refine nt_sub [1, 0] rfl ?_
    refine tbMo_text_14 hw X  (Qx := fun z => z = z15) (fun g7 hq => ?_) nt_fu (0 : Int32) g ⟨_, hz15, rfl⟩
    subst hq
    refine nt_aload_n X dX9_text_49 rfl 0 rfl ?_
    refine nt_get X 0 inX9 (nt_lM hw (Nat.le_of_ble_eq_true rfl)) (nt_m0 hw) rfl (j := 2) (by decide) wd_624 (v := .ref (nt_a w 2)) rfl dX9_text_50 ?_
    refine nt_aload_n X dX9_text_53 rfl 0 rfl ?_
    refine nt_get X 0 inX9 (nt_lM hw (Nat.le_of_ble_eq_true rfl)) (nt_m0 hw) rfl (j := 3) (by decide) wd_625 (v := .int (g7 0 3)) rfl dX9_text_54 ?_
    refine nt_aload_n X dX9_text_57 rfl 0 rfl ?_
    refine nt_get X 0 inX9 (nt_lM hw (Nat.le_of_ble_eq_true rfl)) (nt_m0 hw) rfl (j := 6) (by decide) wd_628 (v := .int (g7 0 6)) rfl dX9_text_58 ?_
    obtain ⟨q8, h⟩ := nt_R_gd h
    refine nt_iast X 2 0 (nt_lM hw (Nat.le_of_ble_eq_true rfl)) (nt_m2 hw) (nt_tM hw) q8 dX9_text_61 ?_
    obtain ⟨g9, eg9, h⟩ := nt_R_lt h
    refine nt_geq eg9 ?_
    refine nt_aload_n X dX9_text_62 rfl 0 rfl ?_
    refine nt_iconst X dX9_text_63 nt_ci_0 ?_
    refine nt_put X 0 inX9 (nt_lM hw (Nat.le_of_ble_eq_true rfl)) (nt_m0 hw) rfl (j := 6) (by decide) wd_628 tyX9 tyX9_ok nmX9 rfl (ty := .int) rfl rfl rfl (fun _ => Nat.le_of_ble_eq_true rfl) (fun _ => rfl) dX9_text_64 ?_
    obtain ⟨g10, eg10, h⟩ := nt_R_lt h
    refine nt_geq eg10 ?_
    refine nt_aload_n X dX9_text_67 rfl 0 rfl ?_
    refine nt_aload_n X dX9_text_68 rfl 0 rfl ?_
    refine nt_get X 0 inX9 (nt_lM hw (Nat.le_of_ble_eq_true rfl)) (nt_m0 hw) rfl (j := 3) (by decide) wd_625 (v := .int (g10 0 3)) rfl dX9_text_69 ?_
    refine nt_iconst X dX9_text_72 nt_ci_0 ?_
    obtain ⟨r11, g12, er11, h⟩ := nt_R_b2 h
    refine nt_cVi X (As := [.int (g10 0 3), .int (0 : Int32)]) 0 (nt_lM hw (Nat.le_of_ble_eq_true rfl)) (nt_m0 hw) rfl (cMo_read hw er11) wd_792 wd_790 wd_791 wd_1082 wd_16 rfl hd_X9_read ⟨Nat.le_of_ble_eq_true rfl, Nat.le_of_ble_eq_true rfl⟩ ⟨Nat.le_refl 0, Nat.le_refl 0⟩ (Nat.le_of_ble_eq_true rfl) rfl dX9_text_73 ?_
    refine nt_istore_n X [(1, .int r11), (0, .ref (nt_a w 0))] dX9_text_76 rfl (by decide) rfl ?_
    refine nt_aload_n X dX9_text_77 rfl 1 rfl ?_
    refine nt_get X 0 inX9 (nt_lM hw (Nat.le_of_ble_eq_true rfl)) (nt_m0 hw) rfl (j := 32) (by decide) wd_654 (v := .int (g12 0 32)) rfl dX9_text_78 ?_
    obtain ⟨ht, hf⟩ := nt_R_if h
    refine nt_if_eq X 92 dX9_text_81 (by decide) (fun q13 => ?_) (fun q13 => ?_)
    · have h := ht q13
      refine nt_aload_n X dX9_text_92 rfl 1 rfl ?_
      refine nt_dup X dX9_text_93 rfl ?_
      refine nt_get X 0 inX9 (nt_lM hw (Nat.le_of_ble_eq_true rfl)) (nt_m0 hw) rfl (j := 3) (by decide) wd_625 (v := .int (g12 0 3)) rfl dX9_text_94 ?_
      refine nt_iconst X dX9_text_97 nt_ci_1 ?_
      refine nt_iadd X dX9_text_98 ?_
      refine nt_put X 0 inX9 (nt_lM hw (Nat.le_of_ble_eq_true rfl)) (nt_m0 hw) rfl (j := 3) (by decide) wd_625 tyX9 tyX9_ok nmX9 rfl (ty := .int) rfl rfl rfl (fun _ => Nat.le_of_ble_eq_true rfl) (fun _ => rfl) dX9_text_99 ?_
      obtain ⟨g14, eg14, h⟩ := nt_R_lt h
      refine nt_geq eg14 ?_
      refine nt_aload_n X dX9_text_102 rfl 1 rfl ?_
      refine nt_get X 0 inX9 (nt_lM hw (Nat.le_of_ble_eq_true rfl)) (nt_m0 hw) rfl (j := 3) (by decide) wd_625 (v := .int (g14 0 3)) rfl dX9_text_103 ?_
      refine nt_iconst X dX9_text_106 nt_ci_1 ?_
      refine nt_isub X dX9_text_107 ?_
      have h := nt_R_some h
      exact nt_iret X dX9_text_108 h
    · have h := hf q13
      refine nt_bipush X dX9_text_84 nt_cb_m100 ?_
      refine nt_aload_n X dX9_text_86 rfl 1 rfl ?_
      refine nt_get X 0 inX9 (nt_lM hw (Nat.le_of_ble_eq_true rfl)) (nt_m0 hw) rfl (j := 33) (by decide) wd_655 (v := .int (g12 0 33)) rfl dX9_text_87 ?_
      refine nt_isub X dX9_text_90 ?_
      have h := nt_R_some h
      exact nt_iret X dX9_text_91 h
  · have h := ht q1
    refine nt_bipush X dX9_text_9 nt_cb_m4 ?_
    have h := nt_R_some h
    exact nt_iret X dX9_text_11 h
def fMo_says (x1 : Int32) (x2 : Int32) (x3 : Int32) (x4 : Int32) (g : nt_T) : Option (Int32 × nt_T) :=
  nt_gd (nt_in x2 9) <| nt_lt (nt_st g 0 19 (g 8 (Int32.toNatClampNeg x2))) fun g2 => nt_gd (nt_in x2 9) <| nt_b1 (fMo_counts x3 (g2 8 (Int32.toNatClampNeg x2)) g2) fun r4 => nt_lt (nt_st g2 0 20 r4) fun g5 => nt_gd (nt_in x2 9) <| nt_b1 (fMo_bitsOf (g5 10 (Int32.toNatClampNeg x2)) g5) fun r7 => nt_lt (nt_st g5 0 21 r7) fun g8 => nt_lt (nt_st g8 0 22 x4) fun g9 => nt_lt (nt_st g9 0 23 (g9 0 18)) fun g10 => nt_gd (nt_in x2 9) <| nt_b1 (fMo_bitsOf (g10 9 (Int32.toNatClampNeg x2)) g10) fun r12 => nt_lt (nt_st g10 0 24 r12) fun g13 => nt_b2 (fMo_read (g13 0 4) x1 g13) fun r14 g15 => some (r14, g15)
set_option maxRecDepth 100000 in
set_option maxHeartbeats 4000000 in
theorem cMo_says {l : Launch} {w : nt_w} (hw : nt_isM w) {x1 : Int32} {x2 : Int32} {x3 : Int32} {x4 : Int32} {g : nt_T} {r : Int32} {g2 : nt_T} (hf : fMo_says x1 x2 x3 x4 g = some (r, g2)) : nt_Mi l w yX9_says cX9_says 5 (some .int) 75 [.ref (nt_a w 0), .int x1, .int x2, .int x3, .int x4] g r g2 := by
  refine nt_Mi_of (by decide) (Nat.le_of_ble_eq_true rfl) (fun p e s m args below meth c A X => ?_)
  have X : nt_X cX9_says 5 RX9 (some .int) w A p s m args meth c := X
  have h : nt_R (fMo_says x1 x2 x3 x4 g) (fun z => z = (r, g2)) := ⟨_, hf, rfl⟩
  unfold fMo_says at h
  show nt_G p l e (nt_rm 75) s m args below meth c w A 0 0 (nt_Qi w A below args s r g2) 5 0 [(0, .ref (nt_a w 0)), (1, .int x1), (2, .int x2), (3, .int x3), (4, .int x4)] [] g
  refine nt_aload_n X dX9_says_0 rfl 0 rfl ?_
  refine nt_aload_n X dX9_says_1 rfl 0 rfl ?_
  refine nt_get X 0 inX9 (nt_lM hw (Nat.le_of_ble_eq_true rfl)) (nt_m0 hw) rfl (j := 12) (by decide) wd_634 (v := .ref (nt_a w 8)) rfl dX9_says_2 ?_
  refine nt_iload_n X dX9_says_5 rfl 2 rfl ?_
  obtain ⟨q1, h⟩ := nt_R_gd h
  refine nt_iald X 8 0 (nt_lM hw (Nat.le_of_ble_eq_true rfl)) (nt_m8 hw) (nt_tM hw) q1 dX9_says_6 ?_
  refine nt_put X 0 inX9 (nt_lM hw (Nat.le_of_ble_eq_true rfl)) (nt_m0 hw) rfl (j := 19) (by decide) wd_641 tyX9 tyX9_ok nmX9 rfl (ty := .int) rfl rfl rfl (fun _ => Nat.le_of_ble_eq_true rfl) (fun _ => rfl) dX9_says_7 ?_
  obtain ⟨g2, eg2, h⟩ := nt_R_lt h
  refine nt_geq eg2 ?_
  refine nt_aload_n X dX9_says_10 rfl 0 rfl ?_
  refine nt_aload_n X dX9_says_11 rfl 0 rfl ?_
  refine nt_iload_n X dX9_says_12 rfl 3 rfl ?_
  refine nt_aload_n X dX9_says_13 rfl 0 rfl ?_
  refine nt_get X 0 inX9 (nt_lM hw (Nat.le_of_ble_eq_true rfl)) (nt_m0 hw) rfl (j := 12) (by decide) wd_634 (v := .ref (nt_a w 8)) rfl dX9_says_14 ?_
  refine nt_iload_n X dX9_says_17 rfl 2 rfl ?_
  obtain ⟨q3, h⟩ := nt_R_gd h
  refine nt_iald X 8 0 (nt_lM hw (Nat.le_of_ble_eq_true rfl)) (nt_m8 hw) (nt_tM hw) q3 dX9_says_18 ?_
  obtain ⟨r4, er4, h⟩ := nt_R_b1 h
  refine nt_cVi X (As := [.int x3, .int (g2 8 (Int32.toNatClampNeg x2))]) 0 (nt_lM hw (Nat.le_of_ble_eq_true rfl)) (nt_m0 hw) rfl (cMo_counts hw er4) wd_773 wd_771 wd_772 wd_1080 wd_16 rfl hd_X9_counts ⟨Nat.le_of_ble_eq_true rfl, Nat.le_of_ble_eq_true rfl⟩ ⟨Nat.le_refl 0, Nat.le_refl 0⟩ (Nat.le_of_ble_eq_true rfl) rfl dX9_says_19 ?_
  refine nt_put X 0 inX9 (nt_lM hw (Nat.le_of_ble_eq_true rfl)) (nt_m0 hw) rfl (j := 20) (by decide) wd_642 tyX9 tyX9_ok nmX9 rfl (ty := .int) rfl rfl rfl (fun _ => Nat.le_of_ble_eq_true rfl) (fun _ => rfl) dX9_says_22 ?_
  obtain ⟨g5, eg5, h⟩ := nt_R_lt h
  refine nt_geq eg5 ?_
  refine nt_aload_n X dX9_says_25 rfl 0 rfl ?_
  refine nt_aload_n X dX9_says_26 rfl 0 rfl ?_
  refine nt_get X 0 inX9 (nt_lM hw (Nat.le_of_ble_eq_true rfl)) (nt_m0 hw) rfl (j := 14) (by decide) wd_636 (v := .ref (nt_a w 10)) rfl dX9_says_27 ?_
  refine nt_iload_n X dX9_says_30 rfl 2 rfl ?_
  obtain ⟨q6, h⟩ := nt_R_gd h
  refine nt_iald X 10 0 (nt_lM hw (Nat.le_of_ble_eq_true rfl)) (nt_m10 hw) (nt_tM hw) q6 dX9_says_31 ?_
  obtain ⟨r7, er7, h⟩ := nt_R_b1 h
  refine nt_cSi X (As := [.int (g5 10 (Int32.toNatClampNeg x2))]) (cMo_bitsOf hw er7) wd_873 wd_871 wd_872 wd_16 hd_X9_bitsOf ⟨Nat.le_of_ble_eq_true rfl, Nat.le_of_ble_eq_true rfl⟩ ⟨Nat.le_refl 0, Nat.le_refl 0⟩ (Nat.le_of_ble_eq_true rfl) rfl dX9_says_32 ?_
  refine nt_put X 0 inX9 (nt_lM hw (Nat.le_of_ble_eq_true rfl)) (nt_m0 hw) rfl (j := 21) (by decide) wd_643 tyX9 tyX9_ok nmX9 rfl (ty := .int) rfl rfl rfl (fun _ => Nat.le_of_ble_eq_true rfl) (fun _ => rfl) dX9_says_35 ?_
  obtain ⟨g8, eg8, h⟩ := nt_R_lt h
  refine nt_geq eg8 ?_
  refine nt_aload_n X dX9_says_38 rfl 0 rfl ?_
  refine nt_iload X dX9_says_39 4 rfl ?_
  refine nt_put X 0 inX9 (nt_lM hw (Nat.le_of_ble_eq_true rfl)) (nt_m0 hw) rfl (j := 22) (by decide) wd_644 tyX9 tyX9_ok nmX9 rfl (ty := .int) rfl rfl rfl (fun _ => Nat.le_of_ble_eq_true rfl) (fun _ => rfl) dX9_says_41 ?_
  obtain ⟨g9, eg9, h⟩ := nt_R_lt h
  refine nt_geq eg9 ?_
  refine nt_aload_n X dX9_says_44 rfl 0 rfl ?_
  refine nt_aload_n X dX9_says_45 rfl 0 rfl ?_
  refine nt_get X 0 inX9 (nt_lM hw (Nat.le_of_ble_eq_true rfl)) (nt_m0 hw) rfl (j := 18) (by decide) wd_640 (v := .int (g9 0 18)) rfl dX9_says_46 ?_
  refine nt_put X 0 inX9 (nt_lM hw (Nat.le_of_ble_eq_true rfl)) (nt_m0 hw) rfl (j := 23) (by decide) wd_645 tyX9 tyX9_ok nmX9 rfl (ty := .int) rfl rfl rfl (fun _ => Nat.le_of_ble_eq_true rfl) (fun _ => rfl) dX9_says_49 ?_
  obtain ⟨g10, eg10, h⟩ := nt_R_lt h
  refine nt_geq eg10 ?_
  refine nt_aload_n X dX9_says_52 rfl 0 rfl ?_
  refine nt_aload_n X dX9_says_53 rfl 0 rfl ?_
  refine nt_get X 0 inX9 (nt_lM hw (Nat.le_of_ble_eq_true rfl)) (nt_m0 hw) rfl (j := 13) (by decide) wd_635 (v := .ref (nt_a w 9)) rfl dX9_says_54 ?_
  refine nt_iload_n X dX9_says_57 rfl 2 rfl ?_
  obtain ⟨q11, h⟩ := nt_R_gd h
  refine nt_iald X 9 0 (nt_lM hw (Nat.le_of_ble_eq_true rfl)) (nt_m9 hw) (nt_tM hw) q11 dX9_says_58 ?_
  obtain ⟨r12, er12, h⟩ := nt_R_b1 h
  refine nt_cSi X (As := [.int (g10 9 (Int32.toNatClampNeg x2))]) (cMo_bitsOf hw er12) wd_873 wd_871 wd_872 wd_16 hd_X9_bitsOf ⟨Nat.le_of_ble_eq_true rfl, Nat.le_of_ble_eq_true rfl⟩ ⟨Nat.le_refl 0, Nat.le_refl 0⟩ (Nat.le_of_ble_eq_true rfl) rfl dX9_says_59 ?_
  refine nt_put X 0 inX9 (nt_lM hw (Nat.le_of_ble_eq_true rfl)) (nt_m0 hw) rfl (j := 24) (by decide) wd_646 tyX9 tyX9_ok nmX9 rfl (ty := .int) rfl rfl rfl (fun _ => Nat.le_of_ble_eq_true rfl) (fun _ => rfl) dX9_says_62 ?_
  obtain ⟨g13, eg13, h⟩ := nt_R_lt h
  refine nt_geq eg13 ?_
  refine nt_aload_n X dX9_says_65 rfl 0 rfl ?_
  refine nt_aload_n X dX9_says_66 rfl 0 rfl ?_
  refine nt_get X 0 inX9 (nt_lM hw (Nat.le_of_ble_eq_true rfl)) (nt_m0 hw) rfl (j := 4) (by decide) wd_626 (v := .int (g13 0 4)) rfl dX9_says_67 ?_
  refine nt_iload_n X dX9_says_70 rfl 1 rfl ?_
  obtain ⟨r14, g15, er14, h⟩ := nt_R_b2 h
  refine nt_cVi X (As := [.int (g13 0 4), .int x1]) 0 (nt_lM hw (Nat.le_of_ble_eq_true rfl)) (nt_m0 hw) rfl (cMo_read hw er14) wd_792 wd_790 wd_791 wd_1082 wd_16 rfl hd_X9_read ⟨Nat.le_of_ble_eq_true rfl, Nat.le_of_ble_eq_true rfl⟩ ⟨Nat.le_refl 0, Nat.le_refl 0⟩ (Nat.le_of_ble_eq_true rfl) rfl dX9_says_71 ?_
  have h := nt_R_some h
  exact nt_iret X dX9_says_74 h
def fMo_mayTell (x1 : Int32) (x2 : Int32) (x3 : Int32) (g : nt_T) : Option (Int32 × nt_T) :=
  nt_lt (x3 &&& (((1 : Int32) <<< (x1 &&& 31)) ^^^ (-1 : Int32))) fun v1 => nt_gd (nt_in x1 9) <| (if (((g 9 (Int32.toNatClampNeg x1)) >>> (x2 &&& 31)) &&& (1 : Int32)) = (1 : Int32) then
    ((if v1 = 0 then
    (some ((0 : Int32), g))
  else
    (nt_b1 (fMo_knowers x2 g) fun r5 => (if (r5 &&& v1) = 0 then
    (nt_b1 (fMo_bitsOf x3 g) fun r7 => nt_b2 (fMo_says (2 : Int32) x1 x2 r7 g) fun r8 g9 => (if r8 = 0 then
    (some ((1 : Int32), g9))
  else
    (some ((0 : Int32), g9))))
  else
    (some ((0 : Int32), g))))))
  else
    (some ((0 : Int32), g)))
set_option maxRecDepth 100000 in
set_option maxHeartbeats 4000000 in
theorem cMo_mayTell {l : Launch} {w : nt_w} (hw : nt_isM w) {x1 : Int32} {x2 : Int32} {x3 : Int32} {g : nt_T} {r : Int32} {g2 : nt_T} (hf : fMo_mayTell x1 x2 x3 g = some (r, g2)) : nt_Mi l w yX9_mayTell cX9_mayTell 5 (some .boolean) 77 [.ref (nt_a w 0), .int x1, .int x2, .int x3] g r g2 := by
  refine nt_Mi_of (by decide) (Nat.le_of_ble_eq_true rfl) (fun p e s m args below meth c A X => ?_)
  have X : nt_X cX9_mayTell 5 RX9 (some .boolean) w A p s m args meth c := X
  have h : nt_R (fMo_mayTell x1 x2 x3 g) (fun z => z = (r, g2)) := ⟨_, hf, rfl⟩
  unfold fMo_mayTell at h
  show nt_G p l e (nt_rm 77) s m args below meth c w A 0 0 (nt_Qi w A below args s r g2) 5 0 [(0, .ref (nt_a w 0)), (1, .int x1), (2, .int x2), (3, .int x3)] [] g
  refine nt_iload_n X dX9_mayTell_0 rfl 3 rfl ?_
  refine nt_iconst X dX9_mayTell_1 nt_ci_1 ?_
  refine nt_iload_n X dX9_mayTell_2 rfl 1 rfl ?_
  refine nt_ishl X dX9_mayTell_3 ?_
  refine nt_iconst X dX9_mayTell_4 nt_ci_m1 ?_
  refine nt_ixor X dX9_mayTell_5 ?_
  refine nt_iand X dX9_mayTell_6 ?_
  obtain ⟨v1, ev1, h⟩ := nt_R_lt h
  refine nt_topi ev1 ?_
  refine nt_istore X [(4, .int v1), (0, .ref (nt_a w 0)), (1, .int x1), (2, .int x2), (3, .int x3)] dX9_mayTell_7 (by decide) rfl ?_
  refine nt_aload_n X dX9_mayTell_9 rfl 1 rfl ?_
  refine nt_get X 0 inX9 (nt_lM hw (Nat.le_of_ble_eq_true rfl)) (nt_m0 hw) rfl (j := 13) (by decide) wd_635 (v := .ref (nt_a w 9)) rfl dX9_mayTell_10 ?_
  refine nt_iload_n X dX9_mayTell_13 rfl 2 rfl ?_
  obtain ⟨q2, h⟩ := nt_R_gd h
  refine nt_iald X 9 0 (nt_lM hw (Nat.le_of_ble_eq_true rfl)) (nt_m9 hw) (nt_tM hw) q2 dX9_mayTell_14 ?_
  refine nt_iload_n X dX9_mayTell_15 rfl 3 rfl ?_
  refine nt_ishr X dX9_mayTell_16 ?_
  refine nt_iconst X dX9_mayTell_17 nt_ci_1 ?_
  refine nt_iand X dX9_mayTell_18 ?_
  refine nt_iconst X dX9_mayTell_19 nt_ci_1 ?_
  obtain ⟨ht, hf⟩ := nt_R_if h
  refine nt_icmp_ne X 57 dX9_mayTell_20 (by decide) (fun q3 => ?_) (fun q3 => ?_)
  · have h := hf q3
    refine nt_iconst X dX9_mayTell_57 nt_ci_0 ?_
    have h := nt_R_some h
    exact nt_zret X rfl dX9_mayTell_58 h
  · have h := ht q3
    refine nt_iload X dX9_mayTell_23 0 rfl ?_
    obtain ⟨ht, hf⟩ := nt_R_if h
    refine nt_if_eq X 57 dX9_mayTell_25 (by decide) (fun q4 => ?_) (fun q4 => ?_)
    · have h := ht q4
      refine nt_iconst X dX9_mayTell_57 nt_ci_0 ?_
      have h := nt_R_some h
      exact nt_zret X rfl dX9_mayTell_58 h
    · have h := hf q4
      refine nt_aload_n X dX9_mayTell_28 rfl 1 rfl ?_
      refine nt_iload_n X dX9_mayTell_29 rfl 3 rfl ?_
      obtain ⟨r5, er5, h⟩ := nt_R_b1 h
      refine nt_cVi X (As := [.int x2]) 0 (nt_lM hw (Nat.le_of_ble_eq_true rfl)) (nt_m0 hw) rfl (cMo_knowers hw er5) wd_870 wd_868 wd_869 wd_1102 wd_16 rfl hd_X9_knowers ⟨Nat.le_of_ble_eq_true rfl, Nat.le_of_ble_eq_true rfl⟩ ⟨Nat.le_refl 0, Nat.le_refl 0⟩ (Nat.le_of_ble_eq_true rfl) rfl dX9_mayTell_30 ?_
      refine nt_iload X dX9_mayTell_33 0 rfl ?_
      refine nt_iand X dX9_mayTell_35 ?_
      obtain ⟨ht, hf⟩ := nt_R_if h
      refine nt_if_ne X 57 dX9_mayTell_36 (by decide) (fun q6 => ?_) (fun q6 => ?_)
      · have h := hf q6
        refine nt_iconst X dX9_mayTell_57 nt_ci_0 ?_
        have h := nt_R_some h
        exact nt_zret X rfl dX9_mayTell_58 h
      · have h := ht q6
        refine nt_aload_n X dX9_mayTell_39 rfl 1 rfl ?_
        refine nt_iconst X dX9_mayTell_40 nt_ci_2 ?_
        refine nt_iload_n X dX9_mayTell_41 rfl 2 rfl ?_
        refine nt_iload_n X dX9_mayTell_42 rfl 3 rfl ?_
        refine nt_iload_n X dX9_mayTell_43 rfl 4 rfl ?_
        obtain ⟨r7, er7, h⟩ := nt_R_b1 h
        refine nt_cSi X (As := [.int x3]) (cMo_bitsOf hw er7) wd_873 wd_871 wd_872 wd_16 hd_X9_bitsOf ⟨Nat.le_of_ble_eq_true rfl, Nat.le_of_ble_eq_true rfl⟩ ⟨Nat.le_refl 0, Nat.le_refl 0⟩ (Nat.le_of_ble_eq_true rfl) rfl dX9_mayTell_44 ?_
        obtain ⟨r8, g9, er8, h⟩ := nt_R_b2 h
        refine nt_cVi X (As := [.int (2 : Int32), .int x1, .int x2, .int r7]) 0 (nt_lM hw (Nat.le_of_ble_eq_true rfl)) (nt_m0 hw) rfl (cMo_says hw er8) wd_876 wd_874 wd_875 wd_1103 wd_16 rfl hd_X9_says ⟨Nat.le_of_ble_eq_true rfl, Nat.le_of_ble_eq_true rfl⟩ ⟨Nat.le_refl 0, Nat.le_refl 0⟩ (Nat.le_of_ble_eq_true rfl) rfl dX9_mayTell_47 ?_
        obtain ⟨ht, hf⟩ := nt_R_if h
        refine nt_if_ne X 57 dX9_mayTell_50 (by decide) (fun q10 => ?_) (fun q10 => ?_)
        · have h := hf q10
          refine nt_iconst X dX9_mayTell_57 nt_ci_0 ?_
          have h := nt_R_some h
          exact nt_zret X rfl dX9_mayTell_58 h
        · have h := ht q10
          refine nt_iconst X dX9_mayTell_53 nt_ci_1 ?_
          refine nt_goto X 58 dX9_mayTell_54 (by decide) ?_
          have h := nt_R_some h
          exact nt_zret X rfl dX9_mayTell_58 h
def bMo_teller_9 (x2 : Int32) (x3 : Int32) (x4 : Int32) (g : nt_T) : Option ((Int32 × nt_T) ⊕ ((Int32 × nt_T) ⊕ (nt_T))) :=
  (if (g 0 17) ≤ x4 then
    (some (.inr (.inr g)))
  else
    ((if ((x3 >>> (x4 &&& 31)) &&& (1 : Int32)) = (1 : Int32) then
    (nt_b2 (fMo_mayTell x4 x2 x3 g) fun r5 g6 => (if r5 = 0 then
    (nt_lt (x4 + (1 : Int32)) fun v8 => some (.inl (v8, g6)))
  else
    (some (.inr (.inl (x4, g6))))))
  else
    (nt_lt (x4 + (1 : Int32)) fun v4 => some (.inl (v4, g))))))
set_option maxRecDepth 100000 in
set_option maxHeartbeats 4000000 in
theorem tbMo_teller_9 {p : Program} {l : Launch} {e : Env} {s : State} {m : MethodId} {args : Array Value} {below : List Frame} {meth : Method} {c : Code} {w : nt_w} {A : Nat → Prop} (hw : nt_isM w) {Q : State → Prop} (X : nt_X cX9_teller 5 RX9 (some .int) w A p s m args meth c) (x2 : Int32) (x3 : Int32)  {Qx : ((Int32 × nt_T) ⊕ (nt_T)) → Prop} (hE0 : ∀ (y4 : Int32) (gy : nt_T), Qx (.inl (y4, gy)) → nt_G p l e (nt_rm 79) s m args below meth c w A 0 0 Q 5 39 [(0, .ref (nt_a w 0)), (2, .int x2), (3, .int x3), (4, .int y4)] [] gy) (hE1 : ∀ (gy : nt_T), Qx (.inr gy) → nt_G p l e (nt_rm 79) s m args below meth c w A 0 0 Q 5 48 [(0, .ref (nt_a w 0)), (2, .int x2), (3, .int x3)] [] gy) : ∀ (n : Nat) (x4 : Int32) (g : nt_T), nt_R (nt_it (fun z => bMo_teller_9 x2 x3 z.1 z.2) n (x4, g)) Qx → nt_G p l e (nt_rm 79) s m args below meth c w A 0 0 Q 5 9 [(0, .ref (nt_a w 0)), (2, .int x2), (3, .int x3), (4, .int x4)] [] g := by
  intro n
  induction n with
  | zero =>
    intro x4 g h
    exact nt_R_none h
  | succ n ih =>
    intro x4 g h
    have h : nt_R (bMo_teller_9 x2 x3 x4 g) (nt_Qz (fun z => bMo_teller_9 x2 x3 z.1 z.2) n Qx) := nt_R_it h
    have hI : ∀ (y4 : Int32) (gy : nt_T), nt_Qz (fun z => bMo_teller_9 x2 x3 z.1 z.2) n Qx (.inl (y4, gy)) → nt_G p l e (nt_rm 79) s m args below meth c w A 0 0 Q 5 9 [(0, .ref (nt_a w 0)), (2, .int x2), (3, .int x3), (4, .int y4)] [] gy := fun y4 gy q => ih y4 gy q
    have hE0 : ∀ (y4 : Int32) (gy : nt_T), nt_Qz (fun z => bMo_teller_9 x2 x3 z.1 z.2) n Qx (.inr (.inl (y4, gy))) → nt_G p l e (nt_rm 79) s m args below meth c w A 0 0 Q 5 39 [(0, .ref (nt_a w 0)), (2, .int x2), (3, .int x3), (4, .int y4)] [] gy := hE0
    have hE1 : ∀ (gy : nt_T), nt_Qz (fun z => bMo_teller_9 x2 x3 z.1 z.2) n Qx (.inr (.inr gy)) → nt_G p l e (nt_rm 79) s m args below meth c w A 0 0 Q 5 48 [(0, .ref (nt_a w 0)), (2, .int x2), (3, .int x3)] [] gy := hE1
    generalize nt_Qz (fun z => bMo_teller_9 x2 x3 z.1 z.2) n Qx = Qz at h hI hE0 hE1
    unfold bMo_teller_9 at h
    refine nt_iload X dX9_teller_9 3 rfl ?_
    refine nt_aload_n X dX9_teller_11 rfl 0 rfl ?_
    refine nt_get X 0 inX9 (nt_lM hw (Nat.le_of_ble_eq_true rfl)) (nt_m0 hw) rfl (j := 17) (by decide) wd_639 (v := .int (g 0 17)) rfl dX9_teller_12 ?_
    obtain ⟨ht, hf⟩ := nt_R_if h
    refine nt_icmp_ge X 48 dX9_teller_15 (by decide) (fun q2 => ?_) (fun q2 => ?_)
    · have h := ht q2
      refine nt_sub [0, 1, 2] rfl ?_
      have h := nt_R_some h
      exact hE1 g h
    · have h := hf q2
      refine nt_iload_n X dX9_teller_18 rfl 2 rfl ?_
      refine nt_iload X dX9_teller_19 3 rfl ?_
      refine nt_ishr X dX9_teller_21 ?_
      refine nt_iconst X dX9_teller_22 nt_ci_1 ?_
      refine nt_iand X dX9_teller_23 ?_
      refine nt_iconst X dX9_teller_24 nt_ci_1 ?_
      obtain ⟨ht, hf⟩ := nt_R_if h
      refine nt_icmp_ne X 42 dX9_teller_25 (by decide) (fun q3 => ?_) (fun q3 => ?_)
      · have h := hf q3
        obtain ⟨v4, ev4, h⟩ := nt_R_lt h
        refine nt_iinc X v4 [(4, .int v4), (0, .ref (nt_a w 0)), (2, .int x2), (3, .int x3)] dX9_teller_42 3 rfl (by rw [nt_ci_1]; exact ev4) (by decide) rfl ?_
        refine nt_goto X 9 dX9_teller_45 (by decide) ?_
        refine nt_sub [1, 2, 3, 0] rfl ?_
        have h := nt_R_some h
        exact hI v4 g h
      · have h := ht q3
        refine nt_aload_n X dX9_teller_28 rfl 0 rfl ?_
        refine nt_iload X dX9_teller_29 3 rfl ?_
        refine nt_iload_n X dX9_teller_31 rfl 1 rfl ?_
        refine nt_iload_n X dX9_teller_32 rfl 2 rfl ?_
        obtain ⟨r5, g6, er5, h⟩ := nt_R_b2 h
        refine nt_cVi X (As := [.int x4, .int x2, .int x3]) 0 (nt_lM hw (Nat.le_of_ble_eq_true rfl)) (nt_m0 hw) rfl (cMo_mayTell hw er5) wd_867 wd_865 wd_866 wd_1101 wd_16 rfl hd_X9_mayTell ⟨Nat.le_of_ble_eq_true rfl, Nat.le_of_ble_eq_true rfl⟩ ⟨Nat.le_refl 0, Nat.le_refl 0⟩ (Nat.le_of_ble_eq_true rfl) rfl dX9_teller_33 ?_
        obtain ⟨ht, hf⟩ := nt_R_if h
        refine nt_if_eq X 42 dX9_teller_36 (by decide) (fun q7 => ?_) (fun q7 => ?_)
        · have h := ht q7
          obtain ⟨v8, ev8, h⟩ := nt_R_lt h
          refine nt_iinc X v8 [(4, .int v8), (0, .ref (nt_a w 0)), (2, .int x2), (3, .int x3)] dX9_teller_42 3 rfl (by rw [nt_ci_1]; exact ev8) (by decide) rfl ?_
          refine nt_goto X 9 dX9_teller_45 (by decide) ?_
          refine nt_sub [1, 2, 3, 0] rfl ?_
          have h := nt_R_some h
          exact hI v8 g6 h
        · have h := hf q7
          refine nt_sub [0, 1, 2, 3] rfl ?_
          have h := nt_R_some h
          exact hE0 x4 g6 h
def fMo_teller (x1 : Int32) (x2 : Int32) (g : nt_T) : Option (Int32 × nt_T) :=
  nt_b1 (fMo_sitting x1 g) fun r1 => (nt_b1 (nt_it (fun z => bMo_teller_9 x2 r1 z.1 z.2) nt_fu ((0 : Int32), g)) fun z12 => match z12 with
  | .inl (v9, g10) => some (v9, g10)
  | .inr (g11) => some ((-1 : Int32), g11))
set_option maxRecDepth 100000 in
set_option maxHeartbeats 4000000 in
theorem cMo_teller {l : Launch} {w : nt_w} (hw : nt_isM w) {x1 : Int32} {x2 : Int32} {g : nt_T} {r : Int32} {g2 : nt_T} (hf : fMo_teller x1 x2 g = some (r, g2)) : nt_Mi l w yX9_teller cX9_teller 5 (some .int) 79 [.ref (nt_a w 0), .int x1, .int x2] g r g2 := by
  refine nt_Mi_of (by decide) (Nat.le_of_ble_eq_true rfl) (fun p e s m args below meth c A X => ?_)
  have X : nt_X cX9_teller 5 RX9 (some .int) w A p s m args meth c := X
  have h : nt_R (fMo_teller x1 x2 g) (fun z => z = (r, g2)) := ⟨_, hf, rfl⟩
  unfold fMo_teller at h
  show nt_G p l e (nt_rm 79) s m args below meth c w A 0 0 (nt_Qi w A below args s r g2) 5 0 [(0, .ref (nt_a w 0)), (1, .int x1), (2, .int x2)] [] g
  refine nt_aload_n X dX9_teller_0 rfl 0 rfl ?_
  refine nt_iload_n X dX9_teller_1 rfl 1 rfl ?_
  obtain ⟨r1, er1, h⟩ := nt_R_b1 h
  refine nt_cVi X (As := [.int x1]) 0 (nt_lM hw (Nat.le_of_ble_eq_true rfl)) (nt_m0 hw) rfl (cMo_sitting hw er1) wd_864 wd_862 wd_863 wd_1100 wd_16 rfl hd_X9_sitting ⟨Nat.le_of_ble_eq_true rfl, Nat.le_of_ble_eq_true rfl⟩ ⟨Nat.le_refl 0, Nat.le_refl 0⟩ (Nat.le_of_ble_eq_true rfl) rfl dX9_teller_2 ?_
  refine nt_istore_n X [(3, .int r1), (0, .ref (nt_a w 0)), (1, .int x1), (2, .int x2)] dX9_teller_5 rfl (by decide) rfl ?_
  refine nt_iconst X dX9_teller_6 nt_ci_0 ?_
  refine nt_istore X [(4, .int (0 : Int32)), (3, .int r1), (0, .ref (nt_a w 0)), (1, .int x1), (2, .int x2)] dX9_teller_7 (by decide) rfl ?_
  obtain ⟨z12, hz12, h⟩ := nt_R_b1 h
  refine nt_sub [2, 4, 1, 0] rfl ?_
  refine tbMo_teller_9 hw X x2 r1 (Qx := fun z => z = z12) (fun v9 g10 hq => ?_) (fun g11 hq => ?_) nt_fu (0 : Int32) g ⟨_, hz12, rfl⟩
  · subst hq
    refine nt_iload X dX9_teller_39 3 rfl ?_
    have h := nt_R_some h
    exact nt_iret X dX9_teller_41 h
  · subst hq
    refine nt_iconst X dX9_teller_48 nt_ci_m1 ?_
    have h := nt_R_some h
    exact nt_iret X dX9_teller_49 h
def bMo_allMay_4 (x1 : Int32) (x2 : Int32) (x3 : Int32) (g : nt_T) : Option ((Int32 × Int32 × nt_T) ⊕ ((Int32 × nt_T))) :=
  (if (g 0 11) ≤ x3 then
    (some (.inr (x2, g)))
  else
    (nt_b2 (fMo_teller x1 x3 g) fun r2 g3 => (if r2 = (-1 : Int32) then
    (nt_lt (x3 + (1 : Int32)) fun v5 => some (.inl (x2, v5, g3)))
  else
    (nt_lt (x2 ||| ((1 : Int32) <<< (x3 &&& 31))) fun v6 => nt_lt (x3 + (1 : Int32)) fun v7 => some (.inl (v6, v7, g3))))))
set_option maxRecDepth 100000 in
set_option maxHeartbeats 4000000 in
theorem tbMo_allMay_4 {p : Program} {l : Launch} {e : Env} {s : State} {m : MethodId} {args : Array Value} {below : List Frame} {meth : Method} {c : Code} {w : nt_w} {A : Nat → Prop} (hw : nt_isM w) {Q : State → Prop} (X : nt_X cX9_allMay 4 RX9 (some .int) w A p s m args meth c) (x1 : Int32)  {Qx : ((Int32 × nt_T)) → Prop} (hE0 : ∀ (y2 : Int32) (gy : nt_T), Qx (y2, gy) → nt_G p l e (nt_rm 81) s m args below meth c w A 0 0 Q 4 34 [(0, .ref (nt_a w 0)), (1, .int x1), (2, .int y2)] [] gy) : ∀ (n : Nat) (x2 : Int32) (x3 : Int32) (g : nt_T), nt_R (nt_it (fun z => bMo_allMay_4 x1 z.1 z.2.1 z.2.2) n (x2, x3, g)) Qx → nt_G p l e (nt_rm 81) s m args below meth c w A 0 0 Q 4 4 [(0, .ref (nt_a w 0)), (1, .int x1), (2, .int x2), (3, .int x3)] [] g := by
  intro n
  induction n with
  | zero =>
    intro x2 x3 g h
    exact nt_R_none h
  | succ n ih =>
    intro x2 x3 g h
    have h : nt_R (bMo_allMay_4 x1 x2 x3 g) (nt_Qz (fun z => bMo_allMay_4 x1 z.1 z.2.1 z.2.2) n Qx) := nt_R_it h
    have hI : ∀ (y2 : Int32) (y3 : Int32) (gy : nt_T), nt_Qz (fun z => bMo_allMay_4 x1 z.1 z.2.1 z.2.2) n Qx (.inl (y2, y3, gy)) → nt_G p l e (nt_rm 81) s m args below meth c w A 0 0 Q 4 4 [(0, .ref (nt_a w 0)), (1, .int x1), (2, .int y2), (3, .int y3)] [] gy := fun y2 y3 gy q => ih y2 y3 gy q
    have hE0 : ∀ (y2 : Int32) (gy : nt_T), nt_Qz (fun z => bMo_allMay_4 x1 z.1 z.2.1 z.2.2) n Qx (.inr (y2, gy)) → nt_G p l e (nt_rm 81) s m args below meth c w A 0 0 Q 4 34 [(0, .ref (nt_a w 0)), (1, .int x1), (2, .int y2)] [] gy := hE0
    generalize nt_Qz (fun z => bMo_allMay_4 x1 z.1 z.2.1 z.2.2) n Qx = Qz at h hI hE0
    unfold bMo_allMay_4 at h
    refine nt_iload_n X dX9_allMay_4 rfl 3 rfl ?_
    refine nt_aload_n X dX9_allMay_5 rfl 0 rfl ?_
    refine nt_get X 0 inX9 (nt_lM hw (Nat.le_of_ble_eq_true rfl)) (nt_m0 hw) rfl (j := 11) (by decide) wd_633 (v := .int (g 0 11)) rfl dX9_allMay_6 ?_
    obtain ⟨ht, hf⟩ := nt_R_if h
    refine nt_icmp_ge X 34 dX9_allMay_9 (by decide) (fun q1 => ?_) (fun q1 => ?_)
    · have h := ht q1
      refine nt_sub [0, 1, 2] rfl ?_
      have h := nt_R_some h
      exact hE0 x2 g h
    · have h := hf q1
      refine nt_aload_n X dX9_allMay_12 rfl 0 rfl ?_
      refine nt_iload_n X dX9_allMay_13 rfl 1 rfl ?_
      refine nt_iload_n X dX9_allMay_14 rfl 3 rfl ?_
      obtain ⟨r2, g3, er2, h⟩ := nt_R_b2 h
      refine nt_cVi X (As := [.int x1, .int x3]) 0 (nt_lM hw (Nat.le_of_ble_eq_true rfl)) (nt_m0 hw) rfl (cMo_teller hw er2) wd_861 wd_859 wd_860 wd_1099 wd_16 rfl hd_X9_teller ⟨Nat.le_of_ble_eq_true rfl, Nat.le_of_ble_eq_true rfl⟩ ⟨Nat.le_refl 0, Nat.le_refl 0⟩ (Nat.le_of_ble_eq_true rfl) rfl dX9_allMay_15 ?_
      refine nt_iconst X dX9_allMay_18 nt_ci_m1 ?_
      obtain ⟨ht, hf⟩ := nt_R_if h
      refine nt_icmp_eq X 28 dX9_allMay_19 (by decide) (fun q4 => ?_) (fun q4 => ?_)
      · have h := ht q4
        obtain ⟨v5, ev5, h⟩ := nt_R_lt h
        refine nt_iinc X v5 [(3, .int v5), (0, .ref (nt_a w 0)), (1, .int x1), (2, .int x2)] dX9_allMay_28 3 rfl (by rw [nt_ci_1]; exact ev5) (by decide) rfl ?_
        refine nt_goto X 4 dX9_allMay_31 (by decide) ?_
        refine nt_sub [1, 2, 3, 0] rfl ?_
        have h := nt_R_some h
        exact hI x2 v5 g3 h
      · have h := hf q4
        refine nt_iload_n X dX9_allMay_22 rfl 2 rfl ?_
        refine nt_iconst X dX9_allMay_23 nt_ci_1 ?_
        refine nt_iload_n X dX9_allMay_24 rfl 3 rfl ?_
        refine nt_ishl X dX9_allMay_25 ?_
        refine nt_ior X dX9_allMay_26 ?_
        obtain ⟨v6, ev6, h⟩ := nt_R_lt h
        refine nt_topi ev6 ?_
        refine nt_istore_n X [(2, .int v6), (0, .ref (nt_a w 0)), (1, .int x1), (3, .int x3)] dX9_allMay_27 rfl (by decide) rfl ?_
        obtain ⟨v7, ev7, h⟩ := nt_R_lt h
        refine nt_iinc X v7 [(3, .int v7), (2, .int v6), (0, .ref (nt_a w 0)), (1, .int x1)] dX9_allMay_28 3 rfl (by rw [nt_ci_1]; exact ev7) (by decide) rfl ?_
        refine nt_goto X 4 dX9_allMay_31 (by decide) ?_
        refine nt_sub [2, 3, 1, 0] rfl ?_
        have h := nt_R_some h
        exact hI v6 v7 g3 h
def fMo_allMay (x1 : Int32) (g : nt_T) : Option (Int32 × nt_T) :=
  (nt_b1 (nt_it (fun z => bMo_allMay_4 x1 z.1 z.2.1 z.2.2) nt_fu ((0 : Int32), (0 : Int32), g)) fun z10 => match z10 with
  | (v8, g9) => some (v8, g9))
set_option maxRecDepth 100000 in
set_option maxHeartbeats 4000000 in
theorem cMo_allMay {l : Launch} {w : nt_w} (hw : nt_isM w) {x1 : Int32} {g : nt_T} {r : Int32} {g2 : nt_T} (hf : fMo_allMay x1 g = some (r, g2)) : nt_Mi l w yX9_allMay cX9_allMay 4 (some .int) 81 [.ref (nt_a w 0), .int x1] g r g2 := by
  refine nt_Mi_of (by decide) (Nat.le_of_ble_eq_true rfl) (fun p e s m args below meth c A X => ?_)
  have X : nt_X cX9_allMay 4 RX9 (some .int) w A p s m args meth c := X
  have h : nt_R (fMo_allMay x1 g) (fun z => z = (r, g2)) := ⟨_, hf, rfl⟩
  unfold fMo_allMay at h
  show nt_G p l e (nt_rm 81) s m args below meth c w A 0 0 (nt_Qi w A below args s r g2) 4 0 [(0, .ref (nt_a w 0)), (1, .int x1)] [] g
  refine nt_iconst X dX9_allMay_0 nt_ci_0 ?_
  refine nt_istore_n X [(2, .int (0 : Int32)), (0, .ref (nt_a w 0)), (1, .int x1)] dX9_allMay_1 rfl (by decide) rfl ?_
  refine nt_iconst X dX9_allMay_2 nt_ci_0 ?_
  refine nt_istore_n X [(3, .int (0 : Int32)), (2, .int (0 : Int32)), (0, .ref (nt_a w 0)), (1, .int x1)] dX9_allMay_3 rfl (by decide) rfl ?_
  obtain ⟨z10, hz10, h⟩ := nt_R_b1 h
  refine nt_sub [2, 3, 1, 0] rfl ?_
  refine tbMo_allMay_4 hw X x1 (Qx := fun z => z = z10) (fun v8 g9 hq => ?_) nt_fu (0 : Int32) (0 : Int32) g ⟨_, hz10, rfl⟩
  subst hq
  refine nt_iload_n X dX9_allMay_34 rfl 2 rfl ?_
  have h := nt_R_some h
  exact nt_iret X dX9_allMay_35 h
def fMo_may (x1 : Int32) (g : nt_T) : Option (Int32 × nt_T) :=
  nt_b1 (fMo_isHouse x1 g) fun r1 => (if r1 = 0 then
    (some ((-2 : Int32), g))
  else
    (nt_b2 (fMo_allMay x1 g) fun r3 g4 => some (r3, g4)))
set_option maxRecDepth 100000 in
set_option maxHeartbeats 4000000 in
theorem cMo_may {l : Launch} {w : nt_w} (hw : nt_isM w) {x1 : Int32} {g : nt_T} {r : Int32} {g2 : nt_T} (hf : fMo_may x1 g = some (r, g2)) : nt_Mi l w yX9_may cX9_may 2 (some .int) 83 [.ref (nt_a w 0), .int x1] g r g2 := by
  refine nt_Mi_of (by decide) (Nat.le_of_ble_eq_true rfl) (fun p e s m args below meth c A X => ?_)
  have X : nt_X cX9_may 2 RX9 (some .int) w A p s m args meth c := X
  have h : nt_R (fMo_may x1 g) (fun z => z = (r, g2)) := ⟨_, hf, rfl⟩
  unfold fMo_may at h
  show nt_G p l e (nt_rm 83) s m args below meth c w A 0 0 (nt_Qi w A below args s r g2) 2 0 [(0, .ref (nt_a w 0)), (1, .int x1)] [] g
  refine nt_iload_n X dX9_may_0 rfl 1 rfl ?_
  obtain ⟨r1, er1, h⟩ := nt_R_b1 h
  refine nt_cSi X (As := [.int x1]) (cMo_isHouse hw er1) wd_855 wd_853 wd_854 wd_16 hd_X9_isHouse ⟨Nat.le_of_ble_eq_true rfl, Nat.le_of_ble_eq_true rfl⟩ ⟨Nat.le_refl 0, Nat.le_refl 0⟩ (Nat.le_of_ble_eq_true rfl) rfl dX9_may_1 ?_
  obtain ⟨ht, hf⟩ := nt_R_if h
  refine nt_if_eq X 15 dX9_may_4 (by decide) (fun q2 => ?_) (fun q2 => ?_)
  · have h := ht q2
    refine nt_bipush X dX9_may_15 nt_cb_m2 ?_
    have h := nt_R_some h
    exact nt_iret X dX9_may_17 h
  · have h := hf q2
    refine nt_aload_n X dX9_may_7 rfl 0 rfl ?_
    refine nt_iload_n X dX9_may_8 rfl 1 rfl ?_
    obtain ⟨r3, g4, er3, h⟩ := nt_R_b2 h
    refine nt_cVi X (As := [.int x1]) 0 (nt_lM hw (Nat.le_of_ble_eq_true rfl)) (nt_m0 hw) rfl (cMo_allMay hw er3) wd_858 wd_856 wd_857 wd_1098 wd_16 rfl hd_X9_allMay ⟨Nat.le_of_ble_eq_true rfl, Nat.le_of_ble_eq_true rfl⟩ ⟨Nat.le_refl 0, Nat.le_refl 0⟩ (Nat.le_of_ble_eq_true rfl) rfl dX9_may_9 ?_
    refine nt_goto X 17 dX9_may_12 (by decide) ?_
    have h := nt_R_some h
    exact nt_iret X dX9_may_17 h
def fMo_by (x1 : Int32) (x2 : Int32) (g : nt_T) : Option (Int32 × nt_T) :=
  nt_b1 (fMo_isHouse x1 g) fun r1 => (if r1 = 0 then
    (some ((-2 : Int32), g))
  else
    (nt_b1 (fMo_isStory x2 g) fun r3 => (if r3 = 0 then
    (some ((-2 : Int32), g))
  else
    (nt_b2 (fMo_teller x1 x2 g) fun r5 g6 => some (r5, g6)))))
set_option maxRecDepth 100000 in
set_option maxHeartbeats 4000000 in
theorem cMo_by {l : Launch} {w : nt_w} (hw : nt_isM w) {x1 : Int32} {x2 : Int32} {g : nt_T} {r : Int32} {g2 : nt_T} (hf : fMo_by x1 x2 g = some (r, g2)) : nt_Mi l w yX9_by cX9_by 3 (some .int) 81 [.ref (nt_a w 0), .int x1, .int x2] g r g2 := by
  refine nt_Mi_of (by decide) (Nat.le_of_ble_eq_true rfl) (fun p e s m args below meth c A X => ?_)
  have X : nt_X cX9_by 3 RX9 (some .int) w A p s m args meth c := X
  have h : nt_R (fMo_by x1 x2 g) (fun z => z = (r, g2)) := ⟨_, hf, rfl⟩
  unfold fMo_by at h
  show nt_G p l e (nt_rm 81) s m args below meth c w A 0 0 (nt_Qi w A below args s r g2) 3 0 [(0, .ref (nt_a w 0)), (1, .int x1), (2, .int x2)] [] g
  refine nt_iload_n X dX9_by_0 rfl 1 rfl ?_
  obtain ⟨r1, er1, h⟩ := nt_R_b1 h
  refine nt_cSi X (As := [.int x1]) (cMo_isHouse hw er1) wd_855 wd_853 wd_854 wd_16 hd_X9_isHouse ⟨Nat.le_of_ble_eq_true rfl, Nat.le_of_ble_eq_true rfl⟩ ⟨Nat.le_refl 0, Nat.le_refl 0⟩ (Nat.le_of_ble_eq_true rfl) rfl dX9_by_1 ?_
  obtain ⟨ht, hf⟩ := nt_R_if h
  refine nt_if_eq X 24 dX9_by_4 (by decide) (fun q2 => ?_) (fun q2 => ?_)
  · have h := ht q2
    refine nt_bipush X dX9_by_24 nt_cb_m2 ?_
    have h := nt_R_some h
    exact nt_iret X dX9_by_26 h
  · have h := hf q2
    refine nt_aload_n X dX9_by_7 rfl 0 rfl ?_
    refine nt_iload_n X dX9_by_8 rfl 2 rfl ?_
    obtain ⟨r3, er3, h⟩ := nt_R_b1 h
    refine nt_cVi X (As := [.int x2]) 0 (nt_lM hw (Nat.le_of_ble_eq_true rfl)) (nt_m0 hw) rfl (cMo_isStory hw er3) wd_740 wd_738 wd_739 wd_1076 wd_16 rfl hd_X9_isStory ⟨Nat.le_of_ble_eq_true rfl, Nat.le_of_ble_eq_true rfl⟩ ⟨Nat.le_refl 0, Nat.le_refl 0⟩ (Nat.le_of_ble_eq_true rfl) rfl dX9_by_9 ?_
    obtain ⟨ht, hf⟩ := nt_R_if h
    refine nt_if_eq X 24 dX9_by_12 (by decide) (fun q4 => ?_) (fun q4 => ?_)
    · have h := ht q4
      refine nt_bipush X dX9_by_24 nt_cb_m2 ?_
      have h := nt_R_some h
      exact nt_iret X dX9_by_26 h
    · have h := hf q4
      refine nt_aload_n X dX9_by_15 rfl 0 rfl ?_
      refine nt_iload_n X dX9_by_16 rfl 1 rfl ?_
      refine nt_iload_n X dX9_by_17 rfl 2 rfl ?_
      obtain ⟨r5, g6, er5, h⟩ := nt_R_b2 h
      refine nt_cVi X (As := [.int x1, .int x2]) 0 (nt_lM hw (Nat.le_of_ble_eq_true rfl)) (nt_m0 hw) rfl (cMo_teller hw er5) wd_861 wd_859 wd_860 wd_1099 wd_16 rfl hd_X9_teller ⟨Nat.le_of_ble_eq_true rfl, Nat.le_of_ble_eq_true rfl⟩ ⟨Nat.le_refl 0, Nat.le_refl 0⟩ (Nat.le_of_ble_eq_true rfl) rfl dX9_by_18 ?_
      refine nt_goto X 26 dX9_by_21 (by decide) ?_
      have h := nt_R_some h
      exact nt_iret X dX9_by_26 h
def bMo_worthBy_31 (x2 : Int32) (x3 : Int32) (x4 : Int32) (x5 : Int32) (x6 : Int32) (g : nt_T) : Option ((Int32 × Int32 × nt_T) ⊕ ((Int32 × nt_T))) :=
  (if (g 0 17) ≤ x6 then
    (some (.inr (x5, g)))
  else
    ((if ((x4 >>> (x6 &&& 31)) &&& (1 : Int32)) = (1 : Int32) then
    ((if x6 = x3 then
    (nt_lt (x6 + (1 : Int32)) fun v10 => some (.inl (x5, v10, g)))
  else
    (nt_b1 (fMo_bitsOf x4 g) fun r11 => nt_b2 (fMo_says (0 : Int32) x6 x2 r11 g) fun r12 g13 => nt_b1 (fMo_within r12 (0 : Int32) (99 : Int32) g13) fun r14 => nt_lt (x5 + r14) fun v15 => nt_lt (x6 + (1 : Int32)) fun v16 => some (.inl (v15, v16, g13)))))
  else
    (nt_lt (x6 + (1 : Int32)) fun v8 => some (.inl (x5, v8, g))))))
set_option maxRecDepth 100000 in
set_option maxHeartbeats 4000000 in
theorem tbMo_worthBy_31 {p : Program} {l : Launch} {e : Env} {s : State} {m : MethodId} {args : Array Value} {below : List Frame} {meth : Method} {c : Code} {w : nt_w} {A : Nat → Prop} (hw : nt_isM w) {Q : State → Prop} (X : nt_X cX9_worthBy 7 RX9 (some .int) w A p s m args meth c) (x2 : Int32) (x3 : Int32) (x4 : Int32)  {Qx : ((Int32 × nt_T)) → Prop} (hE0 : ∀ (y5 : Int32) (gy : nt_T), Qx (y5, gy) → nt_G p l e (nt_rm 77) s m args below meth c w A 0 0 Q 7 87 [(0, .ref (nt_a w 0)), (2, .int x2), (3, .int x3), (4, .int x4), (5, .int y5)] [] gy) : ∀ (n : Nat) (x5 : Int32) (x6 : Int32) (g : nt_T), nt_R (nt_it (fun z => bMo_worthBy_31 x2 x3 x4 z.1 z.2.1 z.2.2) n (x5, x6, g)) Qx → nt_G p l e (nt_rm 77) s m args below meth c w A 0 0 Q 7 31 [(0, .ref (nt_a w 0)), (2, .int x2), (3, .int x3), (4, .int x4), (5, .int x5), (6, .int x6)] [] g := by
  intro n
  induction n with
  | zero =>
    intro x5 x6 g h
    exact nt_R_none h
  | succ n ih =>
    intro x5 x6 g h
    have h : nt_R (bMo_worthBy_31 x2 x3 x4 x5 x6 g) (nt_Qz (fun z => bMo_worthBy_31 x2 x3 x4 z.1 z.2.1 z.2.2) n Qx) := nt_R_it h
    have hI : ∀ (y5 : Int32) (y6 : Int32) (gy : nt_T), nt_Qz (fun z => bMo_worthBy_31 x2 x3 x4 z.1 z.2.1 z.2.2) n Qx (.inl (y5, y6, gy)) → nt_G p l e (nt_rm 77) s m args below meth c w A 0 0 Q 7 31 [(0, .ref (nt_a w 0)), (2, .int x2), (3, .int x3), (4, .int x4), (5, .int y5), (6, .int y6)] [] gy := fun y5 y6 gy q => ih y5 y6 gy q
    have hE0 : ∀ (y5 : Int32) (gy : nt_T), nt_Qz (fun z => bMo_worthBy_31 x2 x3 x4 z.1 z.2.1 z.2.2) n Qx (.inr (y5, gy)) → nt_G p l e (nt_rm 77) s m args below meth c w A 0 0 Q 7 87 [(0, .ref (nt_a w 0)), (2, .int x2), (3, .int x3), (4, .int x4), (5, .int y5)] [] gy := hE0
    generalize nt_Qz (fun z => bMo_worthBy_31 x2 x3 x4 z.1 z.2.1 z.2.2) n Qx = Qz at h hI hE0
    unfold bMo_worthBy_31 at h
    refine nt_iload X dX9_worthBy_31 5 rfl ?_
    refine nt_aload_n X dX9_worthBy_33 rfl 0 rfl ?_
    refine nt_get X 0 inX9 (nt_lM hw (Nat.le_of_ble_eq_true rfl)) (nt_m0 hw) rfl (j := 17) (by decide) wd_639 (v := .int (g 0 17)) rfl dX9_worthBy_34 ?_
    obtain ⟨ht, hf⟩ := nt_R_if h
    refine nt_icmp_ge X 87 dX9_worthBy_37 (by decide) (fun q6 => ?_) (fun q6 => ?_)
    · have h := ht q6
      refine nt_sub [0, 1, 2, 3, 4] rfl ?_
      have h := nt_R_some h
      exact hE0 x5 g h
    · have h := hf q6
      refine nt_iload X dX9_worthBy_40 3 rfl ?_
      refine nt_iload X dX9_worthBy_42 5 rfl ?_
      refine nt_ishr X dX9_worthBy_44 ?_
      refine nt_iconst X dX9_worthBy_45 nt_ci_1 ?_
      refine nt_iand X dX9_worthBy_46 ?_
      refine nt_iconst X dX9_worthBy_47 nt_ci_1 ?_
      obtain ⟨ht, hf⟩ := nt_R_if h
      refine nt_icmp_ne X 81 dX9_worthBy_48 (by decide) (fun q7 => ?_) (fun q7 => ?_)
      · have h := hf q7
        obtain ⟨v8, ev8, h⟩ := nt_R_lt h
        refine nt_iinc X v8 [(6, .int v8), (0, .ref (nt_a w 0)), (2, .int x2), (3, .int x3), (4, .int x4), (5, .int x5)] dX9_worthBy_81 5 rfl (by rw [nt_ci_1]; exact ev8) (by decide) rfl ?_
        refine nt_goto X 31 dX9_worthBy_84 (by decide) ?_
        refine nt_sub [1, 2, 3, 4, 5, 0] rfl ?_
        have h := nt_R_some h
        exact hI x5 v8 g h
      · have h := ht q7
        refine nt_iload X dX9_worthBy_51 5 rfl ?_
        refine nt_iload_n X dX9_worthBy_53 rfl 2 rfl ?_
        obtain ⟨ht, hf⟩ := nt_R_if h
        refine nt_icmp_eq X 81 dX9_worthBy_54 (by decide) (fun q9 => ?_) (fun q9 => ?_)
        · have h := ht q9
          obtain ⟨v10, ev10, h⟩ := nt_R_lt h
          refine nt_iinc X v10 [(6, .int v10), (0, .ref (nt_a w 0)), (2, .int x2), (3, .int x3), (4, .int x4), (5, .int x5)] dX9_worthBy_81 5 rfl (by rw [nt_ci_1]; exact ev10) (by decide) rfl ?_
          refine nt_goto X 31 dX9_worthBy_84 (by decide) ?_
          refine nt_sub [1, 2, 3, 4, 5, 0] rfl ?_
          have h := nt_R_some h
          exact hI x5 v10 g h
        · have h := hf q9
          refine nt_iload X dX9_worthBy_57 4 rfl ?_
          refine nt_aload_n X dX9_worthBy_59 rfl 0 rfl ?_
          refine nt_iconst X dX9_worthBy_60 nt_ci_0 ?_
          refine nt_iload X dX9_worthBy_61 5 rfl ?_
          refine nt_iload_n X dX9_worthBy_63 rfl 1 rfl ?_
          refine nt_iload X dX9_worthBy_64 3 rfl ?_
          obtain ⟨r11, er11, h⟩ := nt_R_b1 h
          refine nt_cSi X (As := [.int x4]) (cMo_bitsOf hw er11) wd_873 wd_871 wd_872 wd_16 hd_X9_bitsOf ⟨Nat.le_of_ble_eq_true rfl, Nat.le_of_ble_eq_true rfl⟩ ⟨Nat.le_refl 0, Nat.le_refl 0⟩ (Nat.le_of_ble_eq_true rfl) rfl dX9_worthBy_66 ?_
          obtain ⟨r12, g13, er12, h⟩ := nt_R_b2 h
          refine nt_cVi X (As := [.int (0 : Int32), .int x6, .int x2, .int r11]) 0 (nt_lM hw (Nat.le_of_ble_eq_true rfl)) (nt_m0 hw) rfl (cMo_says hw er12) wd_876 wd_874 wd_875 wd_1103 wd_16 rfl hd_X9_says ⟨Nat.le_of_ble_eq_true rfl, Nat.le_of_ble_eq_true rfl⟩ ⟨Nat.le_refl 0, Nat.le_refl 0⟩ (Nat.le_of_ble_eq_true rfl) rfl dX9_worthBy_69 ?_
          refine nt_iconst X dX9_worthBy_72 nt_ci_0 ?_
          refine nt_bipush X dX9_worthBy_73 nt_cb_99 ?_
          obtain ⟨r14, er14, h⟩ := nt_R_b1 h
          refine nt_cSi X (As := [.int r12, .int (0 : Int32), .int (99 : Int32)]) (cMo_within hw er14) wd_891 wd_889 wd_890 wd_16 hd_X9_within ⟨Nat.le_of_ble_eq_true rfl, Nat.le_of_ble_eq_true rfl⟩ ⟨Nat.le_refl 0, Nat.le_refl 0⟩ (Nat.le_of_ble_eq_true rfl) rfl dX9_worthBy_75 ?_
          refine nt_iadd X dX9_worthBy_78 ?_
          obtain ⟨v15, ev15, h⟩ := nt_R_lt h
          refine nt_topi ev15 ?_
          refine nt_istore X [(5, .int v15), (0, .ref (nt_a w 0)), (2, .int x2), (3, .int x3), (4, .int x4), (6, .int x6)] dX9_worthBy_79 (by decide) rfl ?_
          obtain ⟨v16, ev16, h⟩ := nt_R_lt h
          refine nt_iinc X v16 [(6, .int v16), (5, .int v15), (0, .ref (nt_a w 0)), (2, .int x2), (3, .int x3), (4, .int x4)] dX9_worthBy_81 5 rfl (by rw [nt_ci_1]; exact ev16) (by decide) rfl ?_
          refine nt_goto X 31 dX9_worthBy_84 (by decide) ?_
          refine nt_sub [2, 3, 4, 5, 1, 0] rfl ?_
          have h := nt_R_some h
          exact hI v15 v16 g13 h
def fMo_worthBy (x1 : Int32) (x2 : Int32) (x3 : Int32) (g : nt_T) : Option (Int32 × nt_T) :=
  nt_b1 (fMo_sitting x1 g) fun r1 => nt_b1 (fMo_bitsOf r1 g) fun r2 => nt_b2 (fMo_says (1 : Int32) x3 x2 r2 g) fun r3 g4 => nt_b1 (fMo_within r3 (-99 : Int32) (99 : Int32) g4) fun r5 => (nt_b1 (nt_it (fun z => bMo_worthBy_31 x2 x3 r1 z.1 z.2.1 z.2.2) nt_fu (r5, (0 : Int32), g4)) fun z19 => match z19 with
  | (v17, g18) => some (v17, g18))
set_option maxRecDepth 100000 in
set_option maxHeartbeats 4000000 in
theorem cMo_worthBy {l : Launch} {w : nt_w} (hw : nt_isM w) {x1 : Int32} {x2 : Int32} {x3 : Int32} {g : nt_T} {r : Int32} {g2 : nt_T} (hf : fMo_worthBy x1 x2 x3 g = some (r, g2)) : nt_Mi l w yX9_worthBy cX9_worthBy 7 (some .int) 77 [.ref (nt_a w 0), .int x1, .int x2, .int x3] g r g2 := by
  refine nt_Mi_of (by decide) (Nat.le_of_ble_eq_true rfl) (fun p e s m args below meth c A X => ?_)
  have X : nt_X cX9_worthBy 7 RX9 (some .int) w A p s m args meth c := X
  have h : nt_R (fMo_worthBy x1 x2 x3 g) (fun z => z = (r, g2)) := ⟨_, hf, rfl⟩
  unfold fMo_worthBy at h
  show nt_G p l e (nt_rm 77) s m args below meth c w A 0 0 (nt_Qi w A below args s r g2) 7 0 [(0, .ref (nt_a w 0)), (1, .int x1), (2, .int x2), (3, .int x3)] [] g
  refine nt_aload_n X dX9_worthBy_0 rfl 0 rfl ?_
  refine nt_iload_n X dX9_worthBy_1 rfl 1 rfl ?_
  obtain ⟨r1, er1, h⟩ := nt_R_b1 h
  refine nt_cVi X (As := [.int x1]) 0 (nt_lM hw (Nat.le_of_ble_eq_true rfl)) (nt_m0 hw) rfl (cMo_sitting hw er1) wd_864 wd_862 wd_863 wd_1100 wd_16 rfl hd_X9_sitting ⟨Nat.le_of_ble_eq_true rfl, Nat.le_of_ble_eq_true rfl⟩ ⟨Nat.le_refl 0, Nat.le_refl 0⟩ (Nat.le_of_ble_eq_true rfl) rfl dX9_worthBy_2 ?_
  refine nt_istore X [(4, .int r1), (0, .ref (nt_a w 0)), (1, .int x1), (2, .int x2), (3, .int x3)] dX9_worthBy_5 (by decide) rfl ?_
  refine nt_aload_n X dX9_worthBy_7 rfl 1 rfl ?_
  refine nt_iconst X dX9_worthBy_8 nt_ci_1 ?_
  refine nt_iload_n X dX9_worthBy_9 rfl 4 rfl ?_
  refine nt_iload_n X dX9_worthBy_10 rfl 3 rfl ?_
  refine nt_iload X dX9_worthBy_11 0 rfl ?_
  obtain ⟨r2, er2, h⟩ := nt_R_b1 h
  refine nt_cSi X (As := [.int r1]) (cMo_bitsOf hw er2) wd_873 wd_871 wd_872 wd_16 hd_X9_bitsOf ⟨Nat.le_of_ble_eq_true rfl, Nat.le_of_ble_eq_true rfl⟩ ⟨Nat.le_refl 0, Nat.le_refl 0⟩ (Nat.le_of_ble_eq_true rfl) rfl dX9_worthBy_13 ?_
  obtain ⟨r3, g4, er3, h⟩ := nt_R_b2 h
  refine nt_cVi X (As := [.int (1 : Int32), .int x3, .int x2, .int r2]) 0 (nt_lM hw (Nat.le_of_ble_eq_true rfl)) (nt_m0 hw) rfl (cMo_says hw er3) wd_876 wd_874 wd_875 wd_1103 wd_16 rfl hd_X9_says ⟨Nat.le_of_ble_eq_true rfl, Nat.le_of_ble_eq_true rfl⟩ ⟨Nat.le_refl 0, Nat.le_refl 0⟩ (Nat.le_of_ble_eq_true rfl) rfl dX9_worthBy_16 ?_
  refine nt_bipush X dX9_worthBy_19 nt_cb_m99 ?_
  refine nt_bipush X dX9_worthBy_21 nt_cb_99 ?_
  obtain ⟨r5, er5, h⟩ := nt_R_b1 h
  refine nt_cSi X (As := [.int r3, .int (-99 : Int32), .int (99 : Int32)]) (cMo_within hw er5) wd_891 wd_889 wd_890 wd_16 hd_X9_within ⟨Nat.le_of_ble_eq_true rfl, Nat.le_of_ble_eq_true rfl⟩ ⟨Nat.le_refl 0, Nat.le_refl 0⟩ (Nat.le_of_ble_eq_true rfl) rfl dX9_worthBy_23 ?_
  refine nt_istore X [(5, .int r5), (4, .int r1), (0, .ref (nt_a w 0)), (1, .int x1), (2, .int x2), (3, .int x3)] dX9_worthBy_26 (by decide) rfl ?_
  refine nt_iconst X dX9_worthBy_28 nt_ci_0 ?_
  refine nt_istore X [(6, .int (0 : Int32)), (5, .int r5), (4, .int r1), (0, .ref (nt_a w 0)), (1, .int x1), (2, .int x2), (3, .int x3)] dX9_worthBy_29 (by decide) rfl ?_
  obtain ⟨z19, hz19, h⟩ := nt_R_b1 h
  refine nt_sub [3, 5, 6, 2, 1, 0] rfl ?_
  refine tbMo_worthBy_31 hw X x2 x3 r1 (Qx := fun z => z = z19) (fun v17 g18 hq => ?_) nt_fu r5 (0 : Int32) g4 ⟨_, hz19, rfl⟩
  subst hq
  refine nt_iload X dX9_worthBy_87 4 rfl ?_
  have h := nt_R_some h
  exact nt_iret X dX9_worthBy_89 h
def fMo_worth (x1 : Int32) (x2 : Int32) (g : nt_T) : Option (Int64 × nt_T) :=
  nt_b1 (fMo_isHouse x1 g) fun r1 => (if r1 = 0 then
    (some ((-4611686018427387904 : Int64), g))
  else
    (nt_b1 (fMo_isStory x2 g) fun r3 => (if r3 = 0 then
    (some ((-4611686018427387904 : Int64), g))
  else
    (nt_b2 (fMo_teller x1 x2 g) fun r5 g6 => (if r5 = (-1 : Int32) then
    (some ((-4611686018427387904 : Int64), g6))
  else
    (nt_b2 (fMo_worthBy x1 x2 r5 g6) fun r8 g9 => some ((Int32.toInt64 r8), g9)))))))
set_option maxRecDepth 100000 in
set_option maxHeartbeats 4000000 in
theorem cMo_worth {l : Launch} {w : nt_w} (hw : nt_isM w) {x1 : Int32} {x2 : Int32} {g : nt_T} {r : Int64} {g2 : nt_T} (hf : fMo_worth x1 x2 g = some (r, g2)) : nt_Ml l w yX9_worth cX9_worth 4 (some .long) 81 [.ref (nt_a w 0), .int x1, .int x2] g r g2 := by
  refine nt_Ml_of (by decide) (Nat.le_of_ble_eq_true rfl) (fun p e s m args below meth c A X => ?_)
  have X : nt_X cX9_worth 4 RX9 (some .long) w A p s m args meth c := X
  have h : nt_R (fMo_worth x1 x2 g) (fun z => z = (r, g2)) := ⟨_, hf, rfl⟩
  unfold fMo_worth at h
  show nt_G p l e (nt_rm 81) s m args below meth c w A 0 0 (nt_Ql w A below args s r g2) 4 0 [(0, .ref (nt_a w 0)), (1, .int x1), (2, .int x2)] [] g
  refine nt_iload_n X dX9_worth_0 rfl 1 rfl ?_
  obtain ⟨r1, er1, h⟩ := nt_R_b1 h
  refine nt_cSi X (As := [.int x1]) (cMo_isHouse hw er1) wd_855 wd_853 wd_854 wd_16 hd_X9_isHouse ⟨Nat.le_of_ble_eq_true rfl, Nat.le_of_ble_eq_true rfl⟩ ⟨Nat.le_refl 0, Nat.le_refl 0⟩ (Nat.le_of_ble_eq_true rfl) rfl dX9_worth_1 ?_
  obtain ⟨ht, hf⟩ := nt_R_if h
  refine nt_if_eq X 15 dX9_worth_4 (by decide) (fun q2 => ?_) (fun q2 => ?_)
  · have h := ht q2
    refine nt_ldc2 X wd_885 dX9_worth_15 ?_
    have h := nt_R_some h
    exact nt_lret X dX9_worth_18 h
  · have h := hf q2
    refine nt_aload_n X dX9_worth_7 rfl 0 rfl ?_
    refine nt_iload_n X dX9_worth_8 rfl 2 rfl ?_
    obtain ⟨r3, er3, h⟩ := nt_R_b1 h
    refine nt_cVi X (As := [.int x2]) 0 (nt_lM hw (Nat.le_of_ble_eq_true rfl)) (nt_m0 hw) rfl (cMo_isStory hw er3) wd_740 wd_738 wd_739 wd_1076 wd_16 rfl hd_X9_isStory ⟨Nat.le_of_ble_eq_true rfl, Nat.le_of_ble_eq_true rfl⟩ ⟨Nat.le_refl 0, Nat.le_refl 0⟩ (Nat.le_of_ble_eq_true rfl) rfl dX9_worth_9 ?_
    obtain ⟨ht, hf⟩ := nt_R_if h
    refine nt_if_ne X 19 dX9_worth_12 (by decide) (fun q4 => ?_) (fun q4 => ?_)
    · have h := hf q4
      refine nt_aload_n X dX9_worth_19 rfl 0 rfl ?_
      refine nt_iload_n X dX9_worth_20 rfl 1 rfl ?_
      refine nt_iload_n X dX9_worth_21 rfl 2 rfl ?_
      obtain ⟨r5, g6, er5, h⟩ := nt_R_b2 h
      refine nt_cVi X (As := [.int x1, .int x2]) 0 (nt_lM hw (Nat.le_of_ble_eq_true rfl)) (nt_m0 hw) rfl (cMo_teller hw er5) wd_861 wd_859 wd_860 wd_1099 wd_16 rfl hd_X9_teller ⟨Nat.le_of_ble_eq_true rfl, Nat.le_of_ble_eq_true rfl⟩ ⟨Nat.le_refl 0, Nat.le_refl 0⟩ (Nat.le_of_ble_eq_true rfl) rfl dX9_worth_22 ?_
      refine nt_istore_n X [(3, .int r5), (0, .ref (nt_a w 0)), (1, .int x1), (2, .int x2)] dX9_worth_25 rfl (by decide) rfl ?_
      refine nt_iload_n X dX9_worth_26 rfl 0 rfl ?_
      refine nt_iconst X dX9_worth_27 nt_ci_m1 ?_
      obtain ⟨ht, hf⟩ := nt_R_if h
      refine nt_icmp_ne X 37 dX9_worth_28 (by decide) (fun q7 => ?_) (fun q7 => ?_)
      · have h := hf q7
        refine nt_aload_n X dX9_worth_37 rfl 1 rfl ?_
        refine nt_iload_n X dX9_worth_38 rfl 2 rfl ?_
        refine nt_iload_n X dX9_worth_39 rfl 3 rfl ?_
        refine nt_iload_n X dX9_worth_40 rfl 0 rfl ?_
        obtain ⟨r8, g9, er8, h⟩ := nt_R_b2 h
        refine nt_cVi X (As := [.int x1, .int x2, .int r5]) 0 (nt_lM hw (Nat.le_of_ble_eq_true rfl)) (nt_m0 hw) rfl (cMo_worthBy hw er8) wd_888 wd_886 wd_887 wd_1104 wd_16 rfl hd_X9_worthBy ⟨Nat.le_of_ble_eq_true rfl, Nat.le_of_ble_eq_true rfl⟩ ⟨Nat.le_refl 0, Nat.le_refl 0⟩ (Nat.le_of_ble_eq_true rfl) rfl dX9_worth_41 ?_
        refine nt_i2l X dX9_worth_44 rfl ?_
        have h := nt_R_some h
        exact nt_lret X dX9_worth_45 h
      · have h := ht q7
        refine nt_ldc2 X wd_885 dX9_worth_31 ?_
        refine nt_goto X 45 dX9_worth_34 (by decide) ?_
        have h := nt_R_some h
        exact nt_lret X dX9_worth_45 h
    · have h := ht q4
      refine nt_ldc2 X wd_885 dX9_worth_15 ?_
      have h := nt_R_some h
      exact nt_lret X dX9_worth_18 h
def jMo_best_50 (x1 : Int32) (x2 : Int32) (x3 : Int32) (x5 : Int32) (g : nt_T) : Option ((Int32 × Int32 × nt_T) ⊕ ((Int32 × nt_T))) :=
  nt_lt (nt_st g 0 34 x5) fun g9 => nt_lt (x3 + (1 : Int32)) fun v10 => some (.inl (x3, v10, g9))
set_option maxRecDepth 100000 in
set_option maxHeartbeats 4000000 in
theorem tjMo_best_50 {p : Program} {l : Launch} {e : Env} {s : State} {m : MethodId} {args : Array Value} {below : List Frame} {meth : Method} {c : Code} {w : nt_w} {A : Nat → Prop} (hw : nt_isM w) {Q : State → Prop} (X : nt_X cX9_best 6 RX9 (some .int) w A p s m args meth c) (x1 : Int32) (x2 : Int32) (x3 : Int32) (x5 : Int32) (g : nt_T) {Qz : (Int32 × Int32 × nt_T) ⊕ ((Int32 × nt_T)) → Prop} (hI : ∀ (y2 : Int32) (y3 : Int32) (gy : nt_T), Qz (.inl (y2, y3, gy)) → nt_G p l e (nt_rm 81) s m args below meth c w A 0 0 Q 6 4 [(0, .ref (nt_a w 0)), (1, .int x1), (2, .int y2), (3, .int y3)] [] gy) (hE0 : ∀ (y2 : Int32) (gy : nt_T), Qz (.inr (y2, gy)) → nt_G p l e (nt_rm 81) s m args below meth c w A 0 0 Q 6 64 [(0, .ref (nt_a w 0)), (1, .int x1), (2, .int y2)] [] gy) (h : nt_R (jMo_best_50 x1 x2 x3 x5 g) Qz) : nt_G p l e (nt_rm 81) s m args below meth c w A 0 0 Q 6 50 [(0, .ref (nt_a w 0)), (1, .int x1), (2, .int x2), (3, .int x3), (5, .int x5)] [] g := by
  unfold jMo_best_50 at h
  refine nt_iload_n X dX9_best_50 rfl 3 rfl ?_
  refine nt_istore_n X [(2, .int x3), (0, .ref (nt_a w 0)), (1, .int x1), (3, .int x3), (5, .int x5)] dX9_best_51 rfl (by decide) rfl ?_
  refine nt_aload_n X dX9_best_52 rfl 1 rfl ?_
  refine nt_iload X dX9_best_53 4 rfl ?_
  refine nt_put X 0 inX9 (nt_lM hw (Nat.le_of_ble_eq_true rfl)) (nt_m0 hw) rfl (j := 34) (by decide) wd_656 tyX9 tyX9_ok nmX9 rfl (ty := .int) rfl rfl rfl (fun _ => Nat.le_of_ble_eq_true rfl) (fun _ => rfl) dX9_best_55 ?_
  obtain ⟨g9, eg9, h⟩ := nt_R_lt h
  refine nt_geq eg9 ?_
  obtain ⟨v10, ev10, h⟩ := nt_R_lt h
  refine nt_iinc X v10 [(3, .int v10), (2, .int x3), (0, .ref (nt_a w 0)), (1, .int x1), (5, .int x5)] dX9_best_58 3 rfl (by rw [nt_ci_1]; exact ev10) (by decide) rfl ?_
  refine nt_goto X 4 dX9_best_61 (by decide) ?_
  refine nt_sub [2, 3, 1, 0] rfl ?_
  have h := nt_R_some h
  exact hI x3 v10 g9 h
def bMo_best_4 (x1 : Int32) (x2 : Int32) (x3 : Int32) (g : nt_T) : Option ((Int32 × Int32 × nt_T) ⊕ ((Int32 × nt_T))) :=
  (if (g 0 11) ≤ x3 then
    (some (.inr (x2, g)))
  else
    (nt_b2 (fMo_teller x1 x3 g) fun r2 g3 => (if r2 = (-1 : Int32) then
    (nt_lt (x3 + (1 : Int32)) fun v5 => some (.inl (x2, v5, g3)))
  else
    (nt_b2 (fMo_worthBy x1 x3 r2 g3) fun r6 g7 => (if x2 = (-1 : Int32) then
    (jMo_best_50 x1 x2 x3 r6 g7)
  else
    ((if r6 ≤ (g7 0 34) then
    (nt_lt (x3 + (1 : Int32)) fun v12 => some (.inl (x2, v12, g7)))
  else
    (jMo_best_50 x1 x2 x3 r6 g7))))))))
set_option maxRecDepth 100000 in
set_option maxHeartbeats 4000000 in
theorem tbMo_best_4 {p : Program} {l : Launch} {e : Env} {s : State} {m : MethodId} {args : Array Value} {below : List Frame} {meth : Method} {c : Code} {w : nt_w} {A : Nat → Prop} (hw : nt_isM w) {Q : State → Prop} (X : nt_X cX9_best 6 RX9 (some .int) w A p s m args meth c) (x1 : Int32)  {Qx : ((Int32 × nt_T)) → Prop} (hE0 : ∀ (y2 : Int32) (gy : nt_T), Qx (y2, gy) → nt_G p l e (nt_rm 81) s m args below meth c w A 0 0 Q 6 64 [(0, .ref (nt_a w 0)), (1, .int x1), (2, .int y2)] [] gy) : ∀ (n : Nat) (x2 : Int32) (x3 : Int32) (g : nt_T), nt_R (nt_it (fun z => bMo_best_4 x1 z.1 z.2.1 z.2.2) n (x2, x3, g)) Qx → nt_G p l e (nt_rm 81) s m args below meth c w A 0 0 Q 6 4 [(0, .ref (nt_a w 0)), (1, .int x1), (2, .int x2), (3, .int x3)] [] g := by
  intro n
  induction n with
  | zero =>
    intro x2 x3 g h
    exact nt_R_none h
  | succ n ih =>
    intro x2 x3 g h
    have h : nt_R (bMo_best_4 x1 x2 x3 g) (nt_Qz (fun z => bMo_best_4 x1 z.1 z.2.1 z.2.2) n Qx) := nt_R_it h
    have hI : ∀ (y2 : Int32) (y3 : Int32) (gy : nt_T), nt_Qz (fun z => bMo_best_4 x1 z.1 z.2.1 z.2.2) n Qx (.inl (y2, y3, gy)) → nt_G p l e (nt_rm 81) s m args below meth c w A 0 0 Q 6 4 [(0, .ref (nt_a w 0)), (1, .int x1), (2, .int y2), (3, .int y3)] [] gy := fun y2 y3 gy q => ih y2 y3 gy q
    have hE0 : ∀ (y2 : Int32) (gy : nt_T), nt_Qz (fun z => bMo_best_4 x1 z.1 z.2.1 z.2.2) n Qx (.inr (y2, gy)) → nt_G p l e (nt_rm 81) s m args below meth c w A 0 0 Q 6 64 [(0, .ref (nt_a w 0)), (1, .int x1), (2, .int y2)] [] gy := hE0
    generalize nt_Qz (fun z => bMo_best_4 x1 z.1 z.2.1 z.2.2) n Qx = Qz at h hI hE0
    unfold bMo_best_4 at h
    refine nt_iload_n X dX9_best_4 rfl 3 rfl ?_
    refine nt_aload_n X dX9_best_5 rfl 0 rfl ?_
    refine nt_get X 0 inX9 (nt_lM hw (Nat.le_of_ble_eq_true rfl)) (nt_m0 hw) rfl (j := 11) (by decide) wd_633 (v := .int (g 0 11)) rfl dX9_best_6 ?_
    obtain ⟨ht, hf⟩ := nt_R_if h
    refine nt_icmp_ge X 64 dX9_best_9 (by decide) (fun q1 => ?_) (fun q1 => ?_)
    · have h := ht q1
      refine nt_sub [0, 1, 2] rfl ?_
      have h := nt_R_some h
      exact hE0 x2 g h
    · have h := hf q1
      refine nt_aload_n X dX9_best_12 rfl 0 rfl ?_
      refine nt_iload_n X dX9_best_13 rfl 1 rfl ?_
      refine nt_iload_n X dX9_best_14 rfl 3 rfl ?_
      obtain ⟨r2, g3, er2, h⟩ := nt_R_b2 h
      refine nt_cVi X (As := [.int x1, .int x3]) 0 (nt_lM hw (Nat.le_of_ble_eq_true rfl)) (nt_m0 hw) rfl (cMo_teller hw er2) wd_861 wd_859 wd_860 wd_1099 wd_16 rfl hd_X9_teller ⟨Nat.le_of_ble_eq_true rfl, Nat.le_of_ble_eq_true rfl⟩ ⟨Nat.le_refl 0, Nat.le_refl 0⟩ (Nat.le_of_ble_eq_true rfl) rfl dX9_best_15 ?_
      refine nt_istore X [(4, .int r2), (0, .ref (nt_a w 0)), (1, .int x1), (2, .int x2), (3, .int x3)] dX9_best_18 (by decide) rfl ?_
      refine nt_iload X dX9_best_20 0 rfl ?_
      refine nt_iconst X dX9_best_22 nt_ci_m1 ?_
      obtain ⟨ht, hf⟩ := nt_R_if h
      refine nt_icmp_eq X 58 dX9_best_23 (by decide) (fun q4 => ?_) (fun q4 => ?_)
      · have h := ht q4
        obtain ⟨v5, ev5, h⟩ := nt_R_lt h
        refine nt_iinc X v5 [(3, .int v5), (4, .int r2), (0, .ref (nt_a w 0)), (1, .int x1), (2, .int x2)] dX9_best_58 4 rfl (by rw [nt_ci_1]; exact ev5) (by decide) rfl ?_
        refine nt_goto X 4 dX9_best_61 (by decide) ?_
        refine nt_sub [2, 3, 4, 0] rfl ?_
        have h := nt_R_some h
        exact hI x2 v5 g3 h
      · have h := hf q4
        refine nt_aload_n X dX9_best_26 rfl 1 rfl ?_
        refine nt_iload_n X dX9_best_27 rfl 2 rfl ?_
        refine nt_iload_n X dX9_best_28 rfl 4 rfl ?_
        refine nt_iload X dX9_best_29 0 rfl ?_
        obtain ⟨r6, g7, er6, h⟩ := nt_R_b2 h
        refine nt_cVi X (As := [.int x1, .int x3, .int r2]) 0 (nt_lM hw (Nat.le_of_ble_eq_true rfl)) (nt_m0 hw) rfl (cMo_worthBy hw er6) wd_888 wd_886 wd_887 wd_1104 wd_16 rfl hd_X9_worthBy ⟨Nat.le_of_ble_eq_true rfl, Nat.le_of_ble_eq_true rfl⟩ ⟨Nat.le_refl 0, Nat.le_refl 0⟩ (Nat.le_of_ble_eq_true rfl) rfl dX9_best_31 ?_
        refine nt_istore X [(5, .int r6), (4, .int r2), (0, .ref (nt_a w 0)), (1, .int x1), (2, .int x2), (3, .int x3)] dX9_best_34 (by decide) rfl ?_
        refine nt_iload_n X dX9_best_36 rfl 4 rfl ?_
        refine nt_iconst X dX9_best_37 nt_ci_m1 ?_
        obtain ⟨ht, hf⟩ := nt_R_if h
        refine nt_icmp_eq X 50 dX9_best_38 (by decide) (fun q8 => ?_) (fun q8 => ?_)
        · have h := ht q8
          refine nt_sub [2, 3, 4, 5, 0] rfl ?_
          exact tjMo_best_50 hw X x1 x2 x3 r6 g7 hI hE0 h
        · have h := hf q8
          refine nt_iload X dX9_best_41 0 rfl ?_
          refine nt_aload_n X dX9_best_43 rfl 2 rfl ?_
          refine nt_get X 0 inX9 (nt_lM hw (Nat.le_of_ble_eq_true rfl)) (nt_m0 hw) rfl (j := 34) (by decide) wd_656 (v := .int (g7 0 34)) rfl dX9_best_44 ?_
          obtain ⟨ht, hf⟩ := nt_R_if h
          refine nt_icmp_le X 58 dX9_best_47 (by decide) (fun q11 => ?_) (fun q11 => ?_)
          · have h := ht q11
            obtain ⟨v12, ev12, h⟩ := nt_R_lt h
            refine nt_iinc X v12 [(3, .int v12), (5, .int r6), (4, .int r2), (0, .ref (nt_a w 0)), (1, .int x1), (2, .int x2)] dX9_best_58 5 rfl (by rw [nt_ci_1]; exact ev12) (by decide) rfl ?_
            refine nt_goto X 4 dX9_best_61 (by decide) ?_
            refine nt_sub [3, 4, 5, 0] rfl ?_
            have h := nt_R_some h
            exact hI x2 v12 g7 h
          · have h := hf q11
            refine nt_sub [2, 3, 4, 5, 0] rfl ?_
            exact tjMo_best_50 hw X x1 x2 x3 r6 g7 hI hE0 h
def fMo_best (x1 : Int32) (g : nt_T) : Option (Int32 × nt_T) :=
  (nt_b1 (nt_it (fun z => bMo_best_4 x1 z.1 z.2.1 z.2.2) nt_fu ((-1 : Int32), (0 : Int32), g)) fun z15 => match z15 with
  | (v13, g14) => some (v13, g14))
set_option maxRecDepth 100000 in
set_option maxHeartbeats 4000000 in
theorem cMo_best {l : Launch} {w : nt_w} (hw : nt_isM w) {x1 : Int32} {g : nt_T} {r : Int32} {g2 : nt_T} (hf : fMo_best x1 g = some (r, g2)) : nt_Mi l w yX9_best cX9_best 6 (some .int) 81 [.ref (nt_a w 0), .int x1] g r g2 := by
  refine nt_Mi_of (by decide) (Nat.le_of_ble_eq_true rfl) (fun p e s m args below meth c A X => ?_)
  have X : nt_X cX9_best 6 RX9 (some .int) w A p s m args meth c := X
  have h : nt_R (fMo_best x1 g) (fun z => z = (r, g2)) := ⟨_, hf, rfl⟩
  unfold fMo_best at h
  show nt_G p l e (nt_rm 81) s m args below meth c w A 0 0 (nt_Qi w A below args s r g2) 6 0 [(0, .ref (nt_a w 0)), (1, .int x1)] [] g
  refine nt_iconst X dX9_best_0 nt_ci_m1 ?_
  refine nt_istore_n X [(2, .int (-1 : Int32)), (0, .ref (nt_a w 0)), (1, .int x1)] dX9_best_1 rfl (by decide) rfl ?_
  refine nt_iconst X dX9_best_2 nt_ci_0 ?_
  refine nt_istore_n X [(3, .int (0 : Int32)), (2, .int (-1 : Int32)), (0, .ref (nt_a w 0)), (1, .int x1)] dX9_best_3 rfl (by decide) rfl ?_
  obtain ⟨z15, hz15, h⟩ := nt_R_b1 h
  refine nt_sub [2, 3, 1, 0] rfl ?_
  refine tbMo_best_4 hw X x1 (Qx := fun z => z = z15) (fun v13 g14 hq => ?_) nt_fu (-1 : Int32) (0 : Int32) g ⟨_, hz15, rfl⟩
  subst hq
  refine nt_iload_n X dX9_best_64 rfl 2 rfl ?_
  have h := nt_R_some h
  exact nt_iret X dX9_best_65 h
def fMo_most (x1 : Int32) (x2 : Int32) (g : nt_T) : Option (Int64 × nt_T) :=
  nt_b1 (fMo_isHouse x1 g) fun r1 => (if r1 = 0 then
    (some ((-4611686018427387904 : Int64), g))
  else
    (nt_b1 (fMo_in (Int32.toInt64 x2) (0 : Int64) (1 : Int64) g) fun r3 => (if r3 = 0 then
    (some ((-4611686018427387904 : Int64), g))
  else
    (nt_b2 (fMo_best x1 g) fun r5 g6 => (if r5 = (-1 : Int32) then
    (some ((-4611686018427387904 : Int64), g6))
  else
    ((if x2 = 0 then
    (some ((Int32.toInt64 r5), g6))
  else
    (some ((Int32.toInt64 (g6 0 34)), g6)))))))))
set_option maxRecDepth 100000 in
set_option maxHeartbeats 4000000 in
theorem cMo_most {l : Launch} {w : nt_w} (hw : nt_isM w) {x1 : Int32} {x2 : Int32} {g : nt_T} {r : Int64} {g2 : nt_T} (hf : fMo_most x1 x2 g = some (r, g2)) : nt_Ml l w yX9_most cX9_most 4 (some .long) 83 [.ref (nt_a w 0), .int x1, .int x2] g r g2 := by
  refine nt_Ml_of (by decide) (Nat.le_of_ble_eq_true rfl) (fun p e s m args below meth c A X => ?_)
  have X : nt_X cX9_most 4 RX9 (some .long) w A p s m args meth c := X
  have h : nt_R (fMo_most x1 x2 g) (fun z => z = (r, g2)) := ⟨_, hf, rfl⟩
  unfold fMo_most at h
  show nt_G p l e (nt_rm 83) s m args below meth c w A 0 0 (nt_Ql w A below args s r g2) 4 0 [(0, .ref (nt_a w 0)), (1, .int x1), (2, .int x2)] [] g
  refine nt_iload_n X dX9_most_0 rfl 1 rfl ?_
  obtain ⟨r1, er1, h⟩ := nt_R_b1 h
  refine nt_cSi X (As := [.int x1]) (cMo_isHouse hw er1) wd_855 wd_853 wd_854 wd_16 hd_X9_isHouse ⟨Nat.le_of_ble_eq_true rfl, Nat.le_of_ble_eq_true rfl⟩ ⟨Nat.le_refl 0, Nat.le_refl 0⟩ (Nat.le_of_ble_eq_true rfl) rfl dX9_most_1 ?_
  obtain ⟨ht, hf⟩ := nt_R_if h
  refine nt_if_eq X 17 dX9_most_4 (by decide) (fun q2 => ?_) (fun q2 => ?_)
  · have h := ht q2
    refine nt_ldc2 X wd_885 dX9_most_17 ?_
    have h := nt_R_some h
    exact nt_lret X dX9_most_20 h
  · have h := hf q2
    refine nt_iload_n X dX9_most_7 rfl 2 rfl ?_
    refine nt_i2l X dX9_most_8 rfl ?_
    refine nt_lconst X dX9_most_9 nt_cl_0 ?_
    refine nt_lconst X dX9_most_10 nt_cl_1 ?_
    obtain ⟨r3, er3, h⟩ := nt_R_b1 h
    refine nt_cSi X (As := [.long (Int32.toInt64 x2), .long (0 : Int64), .long (1 : Int64)]) (cMo_in hw er3) wd_732 wd_730 wd_731 wd_16 hd_X9_in ⟨Nat.le_of_ble_eq_true rfl, Nat.le_of_ble_eq_true rfl⟩ ⟨Nat.le_refl 0, Nat.le_refl 0⟩ (Nat.le_of_ble_eq_true rfl) rfl dX9_most_11 ?_
    obtain ⟨ht, hf⟩ := nt_R_if h
    refine nt_if_ne X 21 dX9_most_14 (by decide) (fun q4 => ?_) (fun q4 => ?_)
    · have h := hf q4
      refine nt_aload_n X dX9_most_21 rfl 0 rfl ?_
      refine nt_iload_n X dX9_most_22 rfl 1 rfl ?_
      obtain ⟨r5, g6, er5, h⟩ := nt_R_b2 h
      refine nt_cVi X (As := [.int x1]) 0 (nt_lM hw (Nat.le_of_ble_eq_true rfl)) (nt_m0 hw) rfl (cMo_best hw er5) wd_898 wd_896 wd_897 wd_1105 wd_16 rfl hd_X9_best ⟨Nat.le_of_ble_eq_true rfl, Nat.le_of_ble_eq_true rfl⟩ ⟨Nat.le_refl 0, Nat.le_refl 0⟩ (Nat.le_of_ble_eq_true rfl) rfl dX9_most_23 ?_
      refine nt_istore_n X [(3, .int r5), (0, .ref (nt_a w 0)), (1, .int x1), (2, .int x2)] dX9_most_26 rfl (by decide) rfl ?_
      refine nt_iload_n X dX9_most_27 rfl 0 rfl ?_
      refine nt_iconst X dX9_most_28 nt_ci_m1 ?_
      obtain ⟨ht, hf⟩ := nt_R_if h
      refine nt_icmp_ne X 38 dX9_most_29 (by decide) (fun q7 => ?_) (fun q7 => ?_)
      · have h := hf q7
        refine nt_iload_n X dX9_most_38 rfl 3 rfl ?_
        obtain ⟨ht, hf⟩ := nt_R_if h
        refine nt_if_ne X 47 dX9_most_39 (by decide) (fun q8 => ?_) (fun q8 => ?_)
        · have h := hf q8
          refine nt_aload_n X dX9_most_47 rfl 1 rfl ?_
          refine nt_get X 0 inX9 (nt_lM hw (Nat.le_of_ble_eq_true rfl)) (nt_m0 hw) rfl (j := 34) (by decide) wd_656 (v := .int (g6 0 34)) rfl dX9_most_48 ?_
          refine nt_i2l X dX9_most_51 rfl ?_
          have h := nt_R_some h
          exact nt_lret X dX9_most_52 h
        · have h := ht q8
          refine nt_iload_n X dX9_most_42 rfl 0 rfl ?_
          refine nt_i2l X dX9_most_43 rfl ?_
          refine nt_goto X 52 dX9_most_44 (by decide) ?_
          have h := nt_R_some h
          exact nt_lret X dX9_most_52 h
      · have h := ht q7
        refine nt_ldc2 X wd_885 dX9_most_32 ?_
        refine nt_goto X 52 dX9_most_35 (by decide) ?_
        have h := nt_R_some h
        exact nt_lret X dX9_most_52 h
    · have h := ht q4
      refine nt_ldc2 X wd_885 dX9_most_17 ?_
      have h := nt_R_some h
      exact nt_lret X dX9_most_20 h
def fMo_tell (x1 : Int32) (x2 : Int32) (g : nt_T) : Option (Int32 × nt_T) :=
  nt_b1 (fMo_isHouse x1 g) fun r1 => (if r1 = 0 then
    (some ((-2 : Int32), g))
  else
    (nt_b1 (fMo_isStory x2 g) fun r3 => (if r3 = 0 then
    (some ((-2 : Int32), g))
  else
    (nt_b2 (fMo_teller x1 x2 g) fun r5 g6 => (if r5 = (-1 : Int32) then
    (some ((-3 : Int32), g6))
  else
    (nt_b2 (fMo_tellIn x1 x2 r5 g6) fun r8 g9 => some (r8, g9)))))))
set_option maxRecDepth 100000 in
set_option maxHeartbeats 4000000 in
theorem cMo_tell {l : Launch} {w : nt_w} (hw : nt_isM w) {x1 : Int32} {x2 : Int32} {g : nt_T} {r : Int32} {g2 : nt_T} (hf : fMo_tell x1 x2 g = some (r, g2)) : nt_Mi l w yX9_tell cX9_tell 4 (some .int) 81 [.ref (nt_a w 0), .int x1, .int x2] g r g2 := by
  refine nt_Mi_of (by decide) (Nat.le_of_ble_eq_true rfl) (fun p e s m args below meth c A X => ?_)
  have X : nt_X cX9_tell 4 RX9 (some .int) w A p s m args meth c := X
  have h : nt_R (fMo_tell x1 x2 g) (fun z => z = (r, g2)) := ⟨_, hf, rfl⟩
  unfold fMo_tell at h
  show nt_G p l e (nt_rm 81) s m args below meth c w A 0 0 (nt_Qi w A below args s r g2) 4 0 [(0, .ref (nt_a w 0)), (1, .int x1), (2, .int x2)] [] g
  refine nt_iload_n X dX9_tell_0 rfl 1 rfl ?_
  obtain ⟨r1, er1, h⟩ := nt_R_b1 h
  refine nt_cSi X (As := [.int x1]) (cMo_isHouse hw er1) wd_855 wd_853 wd_854 wd_16 hd_X9_isHouse ⟨Nat.le_of_ble_eq_true rfl, Nat.le_of_ble_eq_true rfl⟩ ⟨Nat.le_refl 0, Nat.le_refl 0⟩ (Nat.le_of_ble_eq_true rfl) rfl dX9_tell_1 ?_
  obtain ⟨ht, hf⟩ := nt_R_if h
  refine nt_if_eq X 15 dX9_tell_4 (by decide) (fun q2 => ?_) (fun q2 => ?_)
  · have h := ht q2
    refine nt_bipush X dX9_tell_15 nt_cb_m2 ?_
    have h := nt_R_some h
    exact nt_iret X dX9_tell_17 h
  · have h := hf q2
    refine nt_aload_n X dX9_tell_7 rfl 0 rfl ?_
    refine nt_iload_n X dX9_tell_8 rfl 2 rfl ?_
    obtain ⟨r3, er3, h⟩ := nt_R_b1 h
    refine nt_cVi X (As := [.int x2]) 0 (nt_lM hw (Nat.le_of_ble_eq_true rfl)) (nt_m0 hw) rfl (cMo_isStory hw er3) wd_740 wd_738 wd_739 wd_1076 wd_16 rfl hd_X9_isStory ⟨Nat.le_of_ble_eq_true rfl, Nat.le_of_ble_eq_true rfl⟩ ⟨Nat.le_refl 0, Nat.le_refl 0⟩ (Nat.le_of_ble_eq_true rfl) rfl dX9_tell_9 ?_
    obtain ⟨ht, hf⟩ := nt_R_if h
    refine nt_if_ne X 18 dX9_tell_12 (by decide) (fun q4 => ?_) (fun q4 => ?_)
    · have h := hf q4
      refine nt_aload_n X dX9_tell_18 rfl 0 rfl ?_
      refine nt_iload_n X dX9_tell_19 rfl 1 rfl ?_
      refine nt_iload_n X dX9_tell_20 rfl 2 rfl ?_
      obtain ⟨r5, g6, er5, h⟩ := nt_R_b2 h
      refine nt_cVi X (As := [.int x1, .int x2]) 0 (nt_lM hw (Nat.le_of_ble_eq_true rfl)) (nt_m0 hw) rfl (cMo_teller hw er5) wd_861 wd_859 wd_860 wd_1099 wd_16 rfl hd_X9_teller ⟨Nat.le_of_ble_eq_true rfl, Nat.le_of_ble_eq_true rfl⟩ ⟨Nat.le_refl 0, Nat.le_refl 0⟩ (Nat.le_of_ble_eq_true rfl) rfl dX9_tell_21 ?_
      refine nt_istore_n X [(3, .int r5), (0, .ref (nt_a w 0)), (1, .int x1), (2, .int x2)] dX9_tell_24 rfl (by decide) rfl ?_
      refine nt_iload_n X dX9_tell_25 rfl 0 rfl ?_
      refine nt_iconst X dX9_tell_26 nt_ci_m1 ?_
      obtain ⟨ht, hf⟩ := nt_R_if h
      refine nt_icmp_ne X 35 dX9_tell_27 (by decide) (fun q7 => ?_) (fun q7 => ?_)
      · have h := hf q7
        refine nt_aload_n X dX9_tell_35 rfl 1 rfl ?_
        refine nt_iload_n X dX9_tell_36 rfl 2 rfl ?_
        refine nt_iload_n X dX9_tell_37 rfl 3 rfl ?_
        refine nt_iload_n X dX9_tell_38 rfl 0 rfl ?_
        obtain ⟨r8, g9, er8, h⟩ := nt_R_b2 h
        refine nt_cVi X (As := [.int x1, .int x2, .int r5]) 0 (nt_lM hw (Nat.le_of_ble_eq_true rfl)) (nt_m0 hw) rfl (cMo_tellIn hw er8) wd_905 wd_903 wd_904 wd_1106 wd_16 rfl hd_X9_tellIn ⟨Nat.le_of_ble_eq_true rfl, Nat.le_of_ble_eq_true rfl⟩ ⟨Nat.le_refl 0, Nat.le_refl 0⟩ (Nat.le_of_ble_eq_true rfl) rfl dX9_tell_39 ?_
        have h := nt_R_some h
        exact nt_iret X dX9_tell_42 h
      · have h := ht q7
        refine nt_bipush X dX9_tell_30 nt_cb_m3 ?_
        refine nt_goto X 42 dX9_tell_32 (by decide) ?_
        have h := nt_R_some h
        exact nt_iret X dX9_tell_42 h
    · have h := ht q4
      refine nt_bipush X dX9_tell_15 nt_cb_m2 ?_
      have h := nt_R_some h
      exact nt_iret X dX9_tell_17 h
def jMo_canAll_48 (x1 : Int32) (x2 : Int32) (x3 : Int32) (x4 : Int32) (x5 : Int32) (s0 : Int32) (g : nt_T) : Option ((Int32 × Int32 × nt_T) ⊕ ((Int32 × nt_T))) :=
  (if s0 = 0 then
    (nt_lt (x4 + (1 : Int32)) fun v9 => some (.inl (s0, v9, g)))
  else
    (nt_b2 (fMo_tellIn x1 x4 x5 g) fun r10 g11 => nt_lt (x4 + (1 : Int32)) fun v12 => some (.inl (s0, v12, g11))))
set_option maxRecDepth 100000 in
set_option maxHeartbeats 4000000 in
theorem tjMo_canAll_48 {p : Program} {l : Launch} {e : Env} {s : State} {m : MethodId} {args : Array Value} {below : List Frame} {meth : Method} {c : Code} {w : nt_w} {A : Nat → Prop} (hw : nt_isM w) {Q : State → Prop} (X : nt_X cX9_canAll 6 RX9 (some .boolean) w A p s m args meth c) (x1 : Int32) (x2 : Int32) (x3 : Int32) (x4 : Int32) (x5 : Int32) (s0 : Int32) (g : nt_T) {Qz : (Int32 × Int32 × nt_T) ⊕ ((Int32 × nt_T)) → Prop} (hI : ∀ (y3 : Int32) (y4 : Int32) (gy : nt_T), Qz (.inl (y3, y4, gy)) → nt_G p l e (nt_rm 81) s m args below meth c w A 0 0 Q 6 5 [(0, .ref (nt_a w 0)), (1, .int x1), (2, .int x2), (3, .int y3), (4, .int y4)] [] gy) (hE0 : ∀ (y3 : Int32) (gy : nt_T), Qz (.inr (y3, gy)) → nt_G p l e (nt_rm 81) s m args below meth c w A 0 0 Q 6 69 [(0, .ref (nt_a w 0)), (1, .int x1), (2, .int x2), (3, .int y3)] [] gy) (h : nt_R (jMo_canAll_48 x1 x2 x3 x4 x5 s0 g) Qz) : nt_G p l e (nt_rm 81) s m args below meth c w A 0 0 Q 6 48 [(0, .ref (nt_a w 0)), (1, .int x1), (2, .int x2), (3, .int x3), (4, .int x4), (5, .int x5)] [.int s0] g := by
  unfold jMo_canAll_48 at h
  refine nt_istore_n X [(3, .int s0), (0, .ref (nt_a w 0)), (1, .int x1), (2, .int x2), (4, .int x4), (5, .int x5)] dX9_canAll_48 rfl (by decide) rfl ?_
  refine nt_iload_n X dX9_canAll_49 rfl 0 rfl ?_
  obtain ⟨ht, hf⟩ := nt_R_if h
  refine nt_if_eq X 63 dX9_canAll_50 (by decide) (fun q8 => ?_) (fun q8 => ?_)
  · have h := ht q8
    obtain ⟨v9, ev9, h⟩ := nt_R_lt h
    refine nt_iinc X v9 [(4, .int v9), (3, .int s0), (0, .ref (nt_a w 0)), (1, .int x1), (2, .int x2), (5, .int x5)] dX9_canAll_63 4 rfl (by rw [nt_ci_1]; exact ev9) (by decide) rfl ?_
    refine nt_goto X 5 dX9_canAll_66 (by decide) ?_
    refine nt_sub [2, 3, 4, 1, 0] rfl ?_
    have h := nt_R_some h
    exact hI s0 v9 g h
  · have h := hf q8
    refine nt_aload_n X dX9_canAll_53 rfl 1 rfl ?_
    refine nt_iload_n X dX9_canAll_54 rfl 2 rfl ?_
    refine nt_iload X dX9_canAll_55 4 rfl ?_
    refine nt_iload X dX9_canAll_57 5 rfl ?_
    obtain ⟨r10, g11, er10, h⟩ := nt_R_b2 h
    refine nt_cVi X (As := [.int x1, .int x4, .int x5]) 0 (nt_lM hw (Nat.le_of_ble_eq_true rfl)) (nt_m0 hw) rfl (cMo_tellIn hw er10) wd_905 wd_903 wd_904 wd_1106 wd_16 rfl hd_X9_tellIn ⟨Nat.le_of_ble_eq_true rfl, Nat.le_of_ble_eq_true rfl⟩ ⟨Nat.le_refl 0, Nat.le_refl 0⟩ (Nat.le_of_ble_eq_true rfl) rfl dX9_canAll_59 ?_
    refine nt_pop X dX9_canAll_62 rfl ?_
    obtain ⟨v12, ev12, h⟩ := nt_R_lt h
    refine nt_iinc X v12 [(4, .int v12), (3, .int s0), (0, .ref (nt_a w 0)), (1, .int x1), (2, .int x2), (5, .int x5)] dX9_canAll_63 4 rfl (by rw [nt_ci_1]; exact ev12) (by decide) rfl ?_
    refine nt_goto X 5 dX9_canAll_66 (by decide) ?_
    refine nt_sub [2, 3, 4, 1, 0] rfl ?_
    have h := nt_R_some h
    exact hI s0 v12 g11 h
def bMo_canAll_5 (x1 : Int32) (x2 : Int32) (x3 : Int32) (x4 : Int32) (g : nt_T) : Option ((Int32 × Int32 × nt_T) ⊕ ((Int32 × nt_T))) :=
  (if (g 0 11) ≤ x4 then
    (some (.inr (x3, g)))
  else
    ((if x3 = 0 then
    (some (.inr (x3, g)))
  else
    ((if ((x2 >>> (x4 &&& 31)) &&& (1 : Int32)) = (1 : Int32) then
    (nt_b2 (fMo_teller x1 x4 g) fun r5 g6 => (if r5 = (-1 : Int32) then
    (jMo_canAll_48 x1 x2 x3 x4 r5 (0 : Int32) g6)
  else
    (jMo_canAll_48 x1 x2 x3 x4 r5 (1 : Int32) g6)))
  else
    (nt_lt (x4 + (1 : Int32)) fun v4 => some (.inl (x3, v4, g))))))))
set_option maxRecDepth 100000 in
set_option maxHeartbeats 4000000 in
theorem tbMo_canAll_5 {p : Program} {l : Launch} {e : Env} {s : State} {m : MethodId} {args : Array Value} {below : List Frame} {meth : Method} {c : Code} {w : nt_w} {A : Nat → Prop} (hw : nt_isM w) {Q : State → Prop} (X : nt_X cX9_canAll 6 RX9 (some .boolean) w A p s m args meth c) (x1 : Int32) (x2 : Int32)  {Qx : ((Int32 × nt_T)) → Prop} (hE0 : ∀ (y3 : Int32) (gy : nt_T), Qx (y3, gy) → nt_G p l e (nt_rm 81) s m args below meth c w A 0 0 Q 6 69 [(0, .ref (nt_a w 0)), (1, .int x1), (2, .int x2), (3, .int y3)] [] gy) : ∀ (n : Nat) (x3 : Int32) (x4 : Int32) (g : nt_T), nt_R (nt_it (fun z => bMo_canAll_5 x1 x2 z.1 z.2.1 z.2.2) n (x3, x4, g)) Qx → nt_G p l e (nt_rm 81) s m args below meth c w A 0 0 Q 6 5 [(0, .ref (nt_a w 0)), (1, .int x1), (2, .int x2), (3, .int x3), (4, .int x4)] [] g := by
  intro n
  induction n with
  | zero =>
    intro x3 x4 g h
    exact nt_R_none h
  | succ n ih =>
    intro x3 x4 g h
    have h : nt_R (bMo_canAll_5 x1 x2 x3 x4 g) (nt_Qz (fun z => bMo_canAll_5 x1 x2 z.1 z.2.1 z.2.2) n Qx) := nt_R_it h
    have hI : ∀ (y3 : Int32) (y4 : Int32) (gy : nt_T), nt_Qz (fun z => bMo_canAll_5 x1 x2 z.1 z.2.1 z.2.2) n Qx (.inl (y3, y4, gy)) → nt_G p l e (nt_rm 81) s m args below meth c w A 0 0 Q 6 5 [(0, .ref (nt_a w 0)), (1, .int x1), (2, .int x2), (3, .int y3), (4, .int y4)] [] gy := fun y3 y4 gy q => ih y3 y4 gy q
    have hE0 : ∀ (y3 : Int32) (gy : nt_T), nt_Qz (fun z => bMo_canAll_5 x1 x2 z.1 z.2.1 z.2.2) n Qx (.inr (y3, gy)) → nt_G p l e (nt_rm 81) s m args below meth c w A 0 0 Q 6 69 [(0, .ref (nt_a w 0)), (1, .int x1), (2, .int x2), (3, .int y3)] [] gy := hE0
    generalize nt_Qz (fun z => bMo_canAll_5 x1 x2 z.1 z.2.1 z.2.2) n Qx = Qz at h hI hE0
    unfold bMo_canAll_5 at h
    refine nt_iload X dX9_canAll_5 4 rfl ?_
    refine nt_aload_n X dX9_canAll_7 rfl 0 rfl ?_
    refine nt_get X 0 inX9 (nt_lM hw (Nat.le_of_ble_eq_true rfl)) (nt_m0 hw) rfl (j := 11) (by decide) wd_633 (v := .int (g 0 11)) rfl dX9_canAll_8 ?_
    obtain ⟨ht, hf⟩ := nt_R_if h
    refine nt_icmp_ge X 69 dX9_canAll_11 (by decide) (fun q1 => ?_) (fun q1 => ?_)
    · have h := ht q1
      refine nt_sub [0, 1, 2, 3] rfl ?_
      have h := nt_R_some h
      exact hE0 x3 g h
    · have h := hf q1
      refine nt_iload_n X dX9_canAll_14 rfl 3 rfl ?_
      obtain ⟨ht, hf⟩ := nt_R_if h
      refine nt_if_eq X 69 dX9_canAll_15 (by decide) (fun q2 => ?_) (fun q2 => ?_)
      · have h := ht q2
        refine nt_sub [0, 1, 2, 3] rfl ?_
        have h := nt_R_some h
        exact hE0 x3 g h
      · have h := hf q2
        refine nt_iload_n X dX9_canAll_18 rfl 2 rfl ?_
        refine nt_iload X dX9_canAll_19 4 rfl ?_
        refine nt_ishr X dX9_canAll_21 ?_
        refine nt_iconst X dX9_canAll_22 nt_ci_1 ?_
        refine nt_iand X dX9_canAll_23 ?_
        refine nt_iconst X dX9_canAll_24 nt_ci_1 ?_
        obtain ⟨ht, hf⟩ := nt_R_if h
        refine nt_icmp_ne X 63 dX9_canAll_25 (by decide) (fun q3 => ?_) (fun q3 => ?_)
        · have h := hf q3
          obtain ⟨v4, ev4, h⟩ := nt_R_lt h
          refine nt_iinc X v4 [(4, .int v4), (0, .ref (nt_a w 0)), (1, .int x1), (2, .int x2), (3, .int x3)] dX9_canAll_63 4 rfl (by rw [nt_ci_1]; exact ev4) (by decide) rfl ?_
          refine nt_goto X 5 dX9_canAll_66 (by decide) ?_
          refine nt_sub [1, 2, 3, 4, 0] rfl ?_
          have h := nt_R_some h
          exact hI x3 v4 g h
        · have h := ht q3
          refine nt_aload_n X dX9_canAll_28 rfl 0 rfl ?_
          refine nt_iload_n X dX9_canAll_29 rfl 1 rfl ?_
          refine nt_iload X dX9_canAll_30 4 rfl ?_
          obtain ⟨r5, g6, er5, h⟩ := nt_R_b2 h
          refine nt_cVi X (As := [.int x1, .int x4]) 0 (nt_lM hw (Nat.le_of_ble_eq_true rfl)) (nt_m0 hw) rfl (cMo_teller hw er5) wd_861 wd_859 wd_860 wd_1099 wd_16 rfl hd_X9_teller ⟨Nat.le_of_ble_eq_true rfl, Nat.le_of_ble_eq_true rfl⟩ ⟨Nat.le_refl 0, Nat.le_refl 0⟩ (Nat.le_of_ble_eq_true rfl) rfl dX9_canAll_32 ?_
          refine nt_istore X [(5, .int r5), (0, .ref (nt_a w 0)), (1, .int x1), (2, .int x2), (3, .int x3), (4, .int x4)] dX9_canAll_35 (by decide) rfl ?_
          refine nt_iload X dX9_canAll_37 0 rfl ?_
          refine nt_iconst X dX9_canAll_39 nt_ci_m1 ?_
          obtain ⟨ht, hf⟩ := nt_R_if h
          refine nt_icmp_eq X 47 dX9_canAll_40 (by decide) (fun q7 => ?_) (fun q7 => ?_)
          · have h := ht q7
            refine nt_iconst X dX9_canAll_47 nt_ci_0 ?_
            refine nt_sub [1, 2, 3, 4, 5, 0] rfl ?_
            exact tjMo_canAll_48 hw X x1 x2 x3 x4 r5 (0 : Int32) g6 hI hE0 h
          · have h := hf q7
            refine nt_iconst X dX9_canAll_43 nt_ci_1 ?_
            refine nt_goto X 48 dX9_canAll_44 (by decide) ?_
            refine nt_sub [1, 2, 3, 4, 5, 0] rfl ?_
            exact tjMo_canAll_48 hw X x1 x2 x3 x4 r5 (1 : Int32) g6 hI hE0 h
def jMo_canAll_69 (x3 : Int32) (g : nt_T) : Option (Int32 × nt_T) :=
  nt_b1 (fMo_laysBack g) fun g15 => nt_gd (decide (narrow .boolean (.int x3) = .int x3)) <| some (x3, g15)
set_option maxRecDepth 100000 in
set_option maxHeartbeats 4000000 in
theorem tjMo_canAll_69 {p : Program} {l : Launch} {e : Env} {s : State} {m : MethodId} {args : Array Value} {below : List Frame} {meth : Method} {c : Code} {w : nt_w} {A : Nat → Prop} (hw : nt_isM w) {r : Int32} {g2 : nt_T}  (X : nt_X cX9_canAll 6 RX9 (some .boolean) w A p s m args meth c) (x3 : Int32) (g : nt_T) (h : nt_R (jMo_canAll_69 x3 g) (fun z => z = (r, g2))) : nt_G p l e (nt_rm 81) s m args below meth c w A 0 0 (nt_Qi w A below args s r g2) 6 69 [(0, .ref (nt_a w 0)), (3, .int x3)] [] g := by
  unfold jMo_canAll_69 at h
  refine nt_aload_n X dX9_canAll_69 rfl 0 rfl ?_
  obtain ⟨g15, eg15, h⟩ := nt_R_b1 h
  refine nt_cVv X (As := []) 0 (nt_lM hw (Nat.le_of_ble_eq_true rfl)) (nt_m0 hw) rfl (cMo_laysBack hw eg15) wd_922 wd_920 wd_921 wd_1109 wd_16 rfl hd_X9_laysBack ⟨Nat.le_of_ble_eq_true rfl, Nat.le_of_ble_eq_true rfl⟩ ⟨Nat.le_refl 0, Nat.le_refl 0⟩ (Nat.le_of_ble_eq_true rfl) rfl dX9_canAll_70 ?_
  refine nt_iload_n X dX9_canAll_73 rfl 1 rfl ?_
  obtain ⟨q16, h⟩ := nt_R_gd h
  have h := nt_R_some h
  exact nt_zret X (of_decide_eq_true q16) dX9_canAll_74 h
def fMo_canAll (x1 : Int32) (x2 : Int32) (g : nt_T) : Option (Int32 × nt_T) :=
  (nt_b1 (nt_it (fun z => bMo_canAll_5 x1 x2 z.1 z.2.1 z.2.2) nt_fu ((1 : Int32), (0 : Int32), g)) fun z17 => match z17 with
  | (v13, g14) => jMo_canAll_69 v13 g14)
set_option maxRecDepth 100000 in
set_option maxHeartbeats 4000000 in
theorem cMo_canAll {l : Launch} {w : nt_w} (hw : nt_isM w) {x1 : Int32} {x2 : Int32} {g : nt_T} {r : Int32} {g2 : nt_T} (hf : fMo_canAll x1 x2 g = some (r, g2)) : nt_Mi l w yX9_canAll cX9_canAll 6 (some .boolean) 81 [.ref (nt_a w 0), .int x1, .int x2] g r g2 := by
  refine nt_Mi_of (by decide) (Nat.le_of_ble_eq_true rfl) (fun p e s m args below meth c A X => ?_)
  have X : nt_X cX9_canAll 6 RX9 (some .boolean) w A p s m args meth c := X
  have h : nt_R (fMo_canAll x1 x2 g) (fun z => z = (r, g2)) := ⟨_, hf, rfl⟩
  unfold fMo_canAll at h
  show nt_G p l e (nt_rm 81) s m args below meth c w A 0 0 (nt_Qi w A below args s r g2) 6 0 [(0, .ref (nt_a w 0)), (1, .int x1), (2, .int x2)] [] g
  refine nt_iconst X dX9_canAll_0 nt_ci_1 ?_
  refine nt_istore_n X [(3, .int (1 : Int32)), (0, .ref (nt_a w 0)), (1, .int x1), (2, .int x2)] dX9_canAll_1 rfl (by decide) rfl ?_
  refine nt_iconst X dX9_canAll_2 nt_ci_0 ?_
  refine nt_istore X [(4, .int (0 : Int32)), (3, .int (1 : Int32)), (0, .ref (nt_a w 0)), (1, .int x1), (2, .int x2)] dX9_canAll_3 (by decide) rfl ?_
  obtain ⟨z17, hz17, h⟩ := nt_R_b1 h
  refine nt_sub [2, 3, 4, 1, 0] rfl ?_
  refine tbMo_canAll_5 hw X x1 x2 (Qx := fun z => z = z17) (fun v13 g14 hq => ?_) nt_fu (1 : Int32) (0 : Int32) g ⟨_, hz17, rfl⟩
  subst hq
  refine nt_sub [0, 3] rfl ?_
  exact tjMo_canAll_69 hw X v13 g14 h
def bMo_goesOn_29 (x1 : Int32) (x2 : Int32) (x3 : Int32) (x4 : Int32) (g : nt_T) : Option ((Int32 × Int32 × nt_T) ⊕ ((Int32 × nt_T))) :=
  (if ((1 : Int32) <<< ((g 0 11) &&& 31)) ≤ x4 then
    (some (.inr (x3, g)))
  else
    (nt_b1 (fMo_bitsOf x4 g) fun r7 => nt_b1 (fMo_bitsOf x3 g) fun r8 => (if r7 ≤ r8 then
    (nt_lt (x4 + (1 : Int32)) fun v10 => some (.inl (x3, v10, g)))
  else
    (nt_b2 (fMo_canAll x1 x4 g) fun r11 g12 => (if r11 = 0 then
    (nt_lt (x4 + (1 : Int32)) fun v14 => some (.inl (x3, v14, g12)))
  else
    (nt_lt (x4 + (1 : Int32)) fun v15 => some (.inl (x4, v15, g12))))))))
set_option maxRecDepth 100000 in
set_option maxHeartbeats 4000000 in
theorem tbMo_goesOn_29 {p : Program} {l : Launch} {e : Env} {s : State} {m : MethodId} {args : Array Value} {below : List Frame} {meth : Method} {c : Code} {w : nt_w} {A : Nat → Prop} (hw : nt_isM w) {Q : State → Prop} (X : nt_X cX9_goesOn 5 RX9 (some .int) w A p s m args meth c) (x1 : Int32) (x2 : Int32)  {Qx : ((Int32 × nt_T)) → Prop} (hE0 : ∀ (y3 : Int32) (gy : nt_T), Qx (y3, gy) → nt_G p l e (nt_rm 83) s m args below meth c w A 0 0 Q 5 71 [(0, .ref (nt_a w 0)), (1, .int x1), (2, .int x2), (3, .int y3)] [] gy) : ∀ (n : Nat) (x3 : Int32) (x4 : Int32) (g : nt_T), nt_R (nt_it (fun z => bMo_goesOn_29 x1 x2 z.1 z.2.1 z.2.2) n (x3, x4, g)) Qx → nt_G p l e (nt_rm 83) s m args below meth c w A 0 0 Q 5 29 [(0, .ref (nt_a w 0)), (1, .int x1), (2, .int x2), (3, .int x3), (4, .int x4)] [] g := by
  intro n
  induction n with
  | zero =>
    intro x3 x4 g h
    exact nt_R_none h
  | succ n ih =>
    intro x3 x4 g h
    have h : nt_R (bMo_goesOn_29 x1 x2 x3 x4 g) (nt_Qz (fun z => bMo_goesOn_29 x1 x2 z.1 z.2.1 z.2.2) n Qx) := nt_R_it h
    have hI : ∀ (y3 : Int32) (y4 : Int32) (gy : nt_T), nt_Qz (fun z => bMo_goesOn_29 x1 x2 z.1 z.2.1 z.2.2) n Qx (.inl (y3, y4, gy)) → nt_G p l e (nt_rm 83) s m args below meth c w A 0 0 Q 5 29 [(0, .ref (nt_a w 0)), (1, .int x1), (2, .int x2), (3, .int y3), (4, .int y4)] [] gy := fun y3 y4 gy q => ih y3 y4 gy q
    have hE0 : ∀ (y3 : Int32) (gy : nt_T), nt_Qz (fun z => bMo_goesOn_29 x1 x2 z.1 z.2.1 z.2.2) n Qx (.inr (y3, gy)) → nt_G p l e (nt_rm 83) s m args below meth c w A 0 0 Q 5 71 [(0, .ref (nt_a w 0)), (1, .int x1), (2, .int x2), (3, .int y3)] [] gy := hE0
    generalize nt_Qz (fun z => bMo_goesOn_29 x1 x2 z.1 z.2.1 z.2.2) n Qx = Qz at h hI hE0
    unfold bMo_goesOn_29 at h
    refine nt_iload X dX9_goesOn_29 4 rfl ?_
    refine nt_iconst X dX9_goesOn_31 nt_ci_1 ?_
    refine nt_aload_n X dX9_goesOn_32 rfl 0 rfl ?_
    refine nt_get X 0 inX9 (nt_lM hw (Nat.le_of_ble_eq_true rfl)) (nt_m0 hw) rfl (j := 11) (by decide) wd_633 (v := .int (g 0 11)) rfl dX9_goesOn_33 ?_
    refine nt_ishl X dX9_goesOn_36 ?_
    obtain ⟨ht, hf⟩ := nt_R_if h
    refine nt_icmp_ge X 71 dX9_goesOn_37 (by decide) (fun q6 => ?_) (fun q6 => ?_)
    · have h := ht q6
      refine nt_sub [0, 1, 2, 3] rfl ?_
      have h := nt_R_some h
      exact hE0 x3 g h
    · have h := hf q6
      refine nt_iload X dX9_goesOn_40 4 rfl ?_
      obtain ⟨r7, er7, h⟩ := nt_R_b1 h
      refine nt_cSi X (As := [.int x4]) (cMo_bitsOf hw er7) wd_873 wd_871 wd_872 wd_16 hd_X9_bitsOf ⟨Nat.le_of_ble_eq_true rfl, Nat.le_of_ble_eq_true rfl⟩ ⟨Nat.le_refl 0, Nat.le_refl 0⟩ (Nat.le_of_ble_eq_true rfl) rfl dX9_goesOn_42 ?_
      refine nt_iload_n X dX9_goesOn_45 rfl 3 rfl ?_
      obtain ⟨r8, er8, h⟩ := nt_R_b1 h
      refine nt_cSi X (As := [.int x3]) (cMo_bitsOf hw er8) wd_873 wd_871 wd_872 wd_16 hd_X9_bitsOf ⟨Nat.le_of_ble_eq_true rfl, Nat.le_of_ble_eq_true rfl⟩ ⟨Nat.le_refl 0, Nat.le_refl 0⟩ (Nat.le_of_ble_eq_true rfl) rfl dX9_goesOn_46 ?_
      obtain ⟨ht, hf⟩ := nt_R_if h
      refine nt_icmp_le X 65 dX9_goesOn_49 (by decide) (fun q9 => ?_) (fun q9 => ?_)
      · have h := ht q9
        obtain ⟨v10, ev10, h⟩ := nt_R_lt h
        refine nt_iinc X v10 [(4, .int v10), (0, .ref (nt_a w 0)), (1, .int x1), (2, .int x2), (3, .int x3)] dX9_goesOn_65 4 rfl (by rw [nt_ci_1]; exact ev10) (by decide) rfl ?_
        refine nt_goto X 29 dX9_goesOn_68 (by decide) ?_
        refine nt_sub [1, 2, 3, 4, 0] rfl ?_
        have h := nt_R_some h
        exact hI x3 v10 g h
      · have h := hf q9
        refine nt_aload_n X dX9_goesOn_52 rfl 0 rfl ?_
        refine nt_iload_n X dX9_goesOn_53 rfl 1 rfl ?_
        refine nt_iload X dX9_goesOn_54 4 rfl ?_
        obtain ⟨r11, g12, er11, h⟩ := nt_R_b2 h
        refine nt_cVi X (As := [.int x1, .int x4]) 0 (nt_lM hw (Nat.le_of_ble_eq_true rfl)) (nt_m0 hw) rfl (cMo_canAll hw er11) wd_919 wd_917 wd_918 wd_1108 wd_16 rfl hd_X9_canAll ⟨Nat.le_of_ble_eq_true rfl, Nat.le_of_ble_eq_true rfl⟩ ⟨Nat.le_refl 0, Nat.le_refl 0⟩ (Nat.le_of_ble_eq_true rfl) rfl dX9_goesOn_56 ?_
        obtain ⟨ht, hf⟩ := nt_R_if h
        refine nt_if_eq X 65 dX9_goesOn_59 (by decide) (fun q13 => ?_) (fun q13 => ?_)
        · have h := ht q13
          obtain ⟨v14, ev14, h⟩ := nt_R_lt h
          refine nt_iinc X v14 [(4, .int v14), (0, .ref (nt_a w 0)), (1, .int x1), (2, .int x2), (3, .int x3)] dX9_goesOn_65 4 rfl (by rw [nt_ci_1]; exact ev14) (by decide) rfl ?_
          refine nt_goto X 29 dX9_goesOn_68 (by decide) ?_
          refine nt_sub [1, 2, 3, 4, 0] rfl ?_
          have h := nt_R_some h
          exact hI x3 v14 g12 h
        · have h := hf q13
          refine nt_iload X dX9_goesOn_62 4 rfl ?_
          refine nt_istore_n X [(3, .int x4), (0, .ref (nt_a w 0)), (1, .int x1), (2, .int x2), (4, .int x4)] dX9_goesOn_64 rfl (by decide) rfl ?_
          obtain ⟨v15, ev15, h⟩ := nt_R_lt h
          refine nt_iinc X v15 [(4, .int v15), (3, .int x4), (0, .ref (nt_a w 0)), (1, .int x1), (2, .int x2)] dX9_goesOn_65 4 rfl (by rw [nt_ci_1]; exact ev15) (by decide) rfl ?_
          refine nt_goto X 29 dX9_goesOn_68 (by decide) ?_
          refine nt_sub [2, 3, 4, 1, 0] rfl ?_
          have h := nt_R_some h
          exact hI x4 v15 g12 h
def fMo_goesOn (x1 : Int32) (x2 : Int32) (g : nt_T) : Option (Int32 × nt_T) :=
  nt_b1 (fMo_isHouse x1 g) fun r1 => (if r1 = 0 then
    (some ((-2 : Int32), g))
  else
    (nt_b1 (fMo_in (Int32.toInt64 x2) (0 : Int64) (1 : Int64) g) fun r3 => (if r3 = 0 then
    (some ((-2 : Int32), g))
  else
    (nt_b1 (fMo_laysAside g) fun g5 => (nt_b1 (nt_it (fun z => bMo_goesOn_29 x1 x2 z.1 z.2.1 z.2.2) nt_fu ((0 : Int32), (1 : Int32), g5)) fun z20 => match z20 with
  | (v16, g17) => (if x2 = 0 then
    (nt_b1 (fMo_bitsOf v16 g17) fun r19 => some (r19, g17))
  else
    (some (v16, g17))))))))
set_option maxRecDepth 100000 in
set_option maxHeartbeats 4000000 in
theorem cMo_goesOn {l : Launch} {w : nt_w} (hw : nt_isM w) {x1 : Int32} {x2 : Int32} {g : nt_T} {r : Int32} {g2 : nt_T} (hf : fMo_goesOn x1 x2 g = some (r, g2)) : nt_Mi l w yX9_goesOn cX9_goesOn 5 (some .int) 83 [.ref (nt_a w 0), .int x1, .int x2] g r g2 := by
  refine nt_Mi_of (by decide) (Nat.le_of_ble_eq_true rfl) (fun p e s m args below meth c A X => ?_)
  have X : nt_X cX9_goesOn 5 RX9 (some .int) w A p s m args meth c := X
  have h : nt_R (fMo_goesOn x1 x2 g) (fun z => z = (r, g2)) := ⟨_, hf, rfl⟩
  unfold fMo_goesOn at h
  show nt_G p l e (nt_rm 83) s m args below meth c w A 0 0 (nt_Qi w A below args s r g2) 5 0 [(0, .ref (nt_a w 0)), (1, .int x1), (2, .int x2)] [] g
  refine nt_iload_n X dX9_goesOn_0 rfl 1 rfl ?_
  obtain ⟨r1, er1, h⟩ := nt_R_b1 h
  refine nt_cSi X (As := [.int x1]) (cMo_isHouse hw er1) wd_855 wd_853 wd_854 wd_16 hd_X9_isHouse ⟨Nat.le_of_ble_eq_true rfl, Nat.le_of_ble_eq_true rfl⟩ ⟨Nat.le_refl 0, Nat.le_refl 0⟩ (Nat.le_of_ble_eq_true rfl) rfl dX9_goesOn_1 ?_
  obtain ⟨ht, hf⟩ := nt_R_if h
  refine nt_if_eq X 17 dX9_goesOn_4 (by decide) (fun q2 => ?_) (fun q2 => ?_)
  · have h := ht q2
    refine nt_bipush X dX9_goesOn_17 nt_cb_m2 ?_
    have h := nt_R_some h
    exact nt_iret X dX9_goesOn_19 h
  · have h := hf q2
    refine nt_iload_n X dX9_goesOn_7 rfl 2 rfl ?_
    refine nt_i2l X dX9_goesOn_8 rfl ?_
    refine nt_lconst X dX9_goesOn_9 nt_cl_0 ?_
    refine nt_lconst X dX9_goesOn_10 nt_cl_1 ?_
    obtain ⟨r3, er3, h⟩ := nt_R_b1 h
    refine nt_cSi X (As := [.long (Int32.toInt64 x2), .long (0 : Int64), .long (1 : Int64)]) (cMo_in hw er3) wd_732 wd_730 wd_731 wd_16 hd_X9_in ⟨Nat.le_of_ble_eq_true rfl, Nat.le_of_ble_eq_true rfl⟩ ⟨Nat.le_refl 0, Nat.le_refl 0⟩ (Nat.le_of_ble_eq_true rfl) rfl dX9_goesOn_11 ?_
    obtain ⟨ht, hf⟩ := nt_R_if h
    refine nt_if_ne X 20 dX9_goesOn_14 (by decide) (fun q4 => ?_) (fun q4 => ?_)
    · have h := hf q4
      refine nt_aload_n X dX9_goesOn_20 rfl 0 rfl ?_
      obtain ⟨g5, eg5, h⟩ := nt_R_b1 h
      refine nt_cVv X (As := []) 0 (nt_lM hw (Nat.le_of_ble_eq_true rfl)) (nt_m0 hw) rfl (cMo_laysAside hw eg5) wd_916 wd_914 wd_915 wd_1107 wd_16 rfl hd_X9_laysAside ⟨Nat.le_of_ble_eq_true rfl, Nat.le_of_ble_eq_true rfl⟩ ⟨Nat.le_refl 0, Nat.le_refl 0⟩ (Nat.le_of_ble_eq_true rfl) rfl dX9_goesOn_21 ?_
      refine nt_iconst X dX9_goesOn_24 nt_ci_0 ?_
      refine nt_istore_n X [(3, .int (0 : Int32)), (0, .ref (nt_a w 0)), (1, .int x1), (2, .int x2)] dX9_goesOn_25 rfl (by decide) rfl ?_
      refine nt_iconst X dX9_goesOn_26 nt_ci_1 ?_
      refine nt_istore X [(4, .int (1 : Int32)), (3, .int (0 : Int32)), (0, .ref (nt_a w 0)), (1, .int x1), (2, .int x2)] dX9_goesOn_27 (by decide) rfl ?_
      obtain ⟨z20, hz20, h⟩ := nt_R_b1 h
      refine nt_sub [2, 3, 4, 1, 0] rfl ?_
      refine tbMo_goesOn_29 hw X x1 x2 (Qx := fun z => z = z20) (fun v16 g17 hq => ?_) nt_fu (0 : Int32) (1 : Int32) g5 ⟨_, hz20, rfl⟩
      subst hq
      refine nt_iload_n X dX9_goesOn_71 rfl 2 rfl ?_
      obtain ⟨ht, hf⟩ := nt_R_if h
      refine nt_if_ne X 82 dX9_goesOn_72 (by decide) (fun q18 => ?_) (fun q18 => ?_)
      · have h := hf q18
        refine nt_iload_n X dX9_goesOn_82 rfl 3 rfl ?_
        have h := nt_R_some h
        exact nt_iret X dX9_goesOn_83 h
      · have h := ht q18
        refine nt_iload_n X dX9_goesOn_75 rfl 3 rfl ?_
        obtain ⟨r19, er19, h⟩ := nt_R_b1 h
        refine nt_cSi X (As := [.int v16]) (cMo_bitsOf hw er19) wd_873 wd_871 wd_872 wd_16 hd_X9_bitsOf ⟨Nat.le_of_ble_eq_true rfl, Nat.le_of_ble_eq_true rfl⟩ ⟨Nat.le_refl 0, Nat.le_refl 0⟩ (Nat.le_of_ble_eq_true rfl) rfl dX9_goesOn_76 ?_
        refine nt_goto X 83 dX9_goesOn_79 (by decide) ?_
        have h := nt_R_some h
        exact nt_iret X dX9_goesOn_83 h
    · have h := ht q4
      refine nt_bipush X dX9_goesOn_17 nt_cb_m2 ?_
      have h := nt_R_some h
      exact nt_iret X dX9_goesOn_19 h
def jMo_isTired_46 (x4 : Int32) (g : nt_T) : Option (Int32 × nt_T) :=
  nt_gd (nt_in x4 576) <| (if (g 17 (Int32.toNatClampNeg x4)) = (2 : Int32) then
    (some ((1 : Int32), g))
  else
    (some ((0 : Int32), g)))
set_option maxRecDepth 100000 in
set_option maxHeartbeats 4000000 in
theorem tjMo_isTired_46 {p : Program} {l : Launch} {e : Env} {s : State} {m : MethodId} {args : Array Value} {below : List Frame} {meth : Method} {c : Code} {w : nt_w} {A : Nat → Prop} (hw : nt_isM w) {r : Int32} {g2 : nt_T}  (X : nt_X cX9_isTired 5 RX9 (some .boolean) w A p s m args meth c) (x4 : Int32) (g : nt_T) (h : nt_R (jMo_isTired_46 x4 g) (fun z => z = (r, g2))) : nt_G p l e (nt_rm 77) s m args below meth c w A 0 0 (nt_Qi w A below args s r g2) 5 46 [(0, .ref (nt_a w 0)), (4, .int x4)] [] g := by
  unfold jMo_isTired_46 at h
  refine nt_aload_n X dX9_isTired_46 rfl 0 rfl ?_
  refine nt_get X 0 inX9 (nt_lM hw (Nat.le_of_ble_eq_true rfl)) (nt_m0 hw) rfl (j := 40) (by decide) wd_662 (v := .ref (nt_a w 17)) rfl dX9_isTired_47 ?_
  refine nt_iload X dX9_isTired_50 1 rfl ?_
  obtain ⟨q4, h⟩ := nt_R_gd h
  refine nt_iald X 17 0 (nt_lM hw (Nat.le_of_ble_eq_true rfl)) (nt_m17 hw) (nt_tM hw) q4 dX9_isTired_52 ?_
  refine nt_iconst X dX9_isTired_53 nt_ci_2 ?_
  obtain ⟨ht, hf⟩ := nt_R_if h
  refine nt_icmp_ne X 61 dX9_isTired_54 (by decide) (fun q5 => ?_) (fun q5 => ?_)
  · have h := hf q5
    refine nt_iconst X dX9_isTired_61 nt_ci_0 ?_
    have h := nt_R_some h
    exact nt_zret X rfl dX9_isTired_62 h
  · have h := ht q5
    refine nt_iconst X dX9_isTired_57 nt_ci_1 ?_
    refine nt_goto X 62 dX9_isTired_58 (by decide) ?_
    have h := nt_R_some h
    exact nt_zret X rfl dX9_isTired_62 h
def jMo_isTired_45 (x4 : Int32) (s0 : Int32) (s1 : Int32) (g : nt_T) : Option (Int32 × nt_T) :=
  nt_gd (nt_in s1 576) <| nt_lt (nt_st g 17 (Int32.toNatClampNeg s1) s0) fun g10 => jMo_isTired_46 x4 g10
set_option maxRecDepth 100000 in
set_option maxHeartbeats 4000000 in
theorem tjMo_isTired_45 {p : Program} {l : Launch} {e : Env} {s : State} {m : MethodId} {args : Array Value} {below : List Frame} {meth : Method} {c : Code} {w : nt_w} {A : Nat → Prop} (hw : nt_isM w) {r : Int32} {g2 : nt_T}  (X : nt_X cX9_isTired 5 RX9 (some .boolean) w A p s m args meth c) (x4 : Int32) (s0 : Int32) (s1 : Int32) (g : nt_T) (h : nt_R (jMo_isTired_45 x4 s0 s1 g) (fun z => z = (r, g2))) : nt_G p l e (nt_rm 77) s m args below meth c w A 0 0 (nt_Qi w A below args s r g2) 5 45 [(0, .ref (nt_a w 0)), (4, .int x4)] [.int s0, .int s1, .ref (nt_a w 17)] g := by
  unfold jMo_isTired_45 at h
  obtain ⟨q9, h⟩ := nt_R_gd h
  refine nt_iast X 17 0 (nt_lM hw (Nat.le_of_ble_eq_true rfl)) (nt_m17 hw) (nt_tM hw) q9 dX9_isTired_45 ?_
  obtain ⟨g10, eg10, h⟩ := nt_R_lt h
  refine nt_geq eg10 ?_
  exact tjMo_isTired_46 hw X x4 g10 h
def fMo_isTired (x1 : Int32) (x2 : Int32) (x3 : Int32) (g : nt_T) : Option (Int32 × nt_T) :=
  nt_lt (((((8 : Int32) * x1) + x2) * (9 : Int32)) + x3) fun v1 => nt_gd (nt_in v1 576) <| (if (g 17 (Int32.toNatClampNeg v1)) = 0 then
    (nt_b2 (fMo_says (2 : Int32) x1 x2 x3 g) fun r6 g7 => (if r6 = 0 then
    (jMo_isTired_45 v1 (1 : Int32) v1 g7)
  else
    (jMo_isTired_45 v1 (2 : Int32) v1 g7)))
  else
    (jMo_isTired_46 v1 g))
set_option maxRecDepth 100000 in
set_option maxHeartbeats 4000000 in
theorem cMo_isTired {l : Launch} {w : nt_w} (hw : nt_isM w) {x1 : Int32} {x2 : Int32} {x3 : Int32} {g : nt_T} {r : Int32} {g2 : nt_T} (hf : fMo_isTired x1 x2 x3 g = some (r, g2)) : nt_Mi l w yX9_isTired cX9_isTired 5 (some .boolean) 77 [.ref (nt_a w 0), .int x1, .int x2, .int x3] g r g2 := by
  refine nt_Mi_of (by decide) (Nat.le_of_ble_eq_true rfl) (fun p e s m args below meth c A X => ?_)
  have X : nt_X cX9_isTired 5 RX9 (some .boolean) w A p s m args meth c := X
  have h : nt_R (fMo_isTired x1 x2 x3 g) (fun z => z = (r, g2)) := ⟨_, hf, rfl⟩
  unfold fMo_isTired at h
  show nt_G p l e (nt_rm 77) s m args below meth c w A 0 0 (nt_Qi w A below args s r g2) 5 0 [(0, .ref (nt_a w 0)), (1, .int x1), (2, .int x2), (3, .int x3)] [] g
  refine nt_bipush X dX9_isTired_0 nt_cb_8 ?_
  refine nt_iload_n X dX9_isTired_2 rfl 1 rfl ?_
  refine nt_imul X dX9_isTired_3 ?_
  refine nt_iload_n X dX9_isTired_4 rfl 2 rfl ?_
  refine nt_iadd X dX9_isTired_5 ?_
  refine nt_bipush X dX9_isTired_6 nt_cb_9 ?_
  refine nt_imul X dX9_isTired_8 ?_
  refine nt_iload_n X dX9_isTired_9 rfl 3 rfl ?_
  refine nt_iadd X dX9_isTired_10 ?_
  obtain ⟨v1, ev1, h⟩ := nt_R_lt h
  refine nt_topi ev1 ?_
  refine nt_istore X [(4, .int v1), (0, .ref (nt_a w 0)), (1, .int x1), (2, .int x2), (3, .int x3)] dX9_isTired_11 (by decide) rfl ?_
  refine nt_aload_n X dX9_isTired_13 rfl 1 rfl ?_
  refine nt_get X 0 inX9 (nt_lM hw (Nat.le_of_ble_eq_true rfl)) (nt_m0 hw) rfl (j := 40) (by decide) wd_662 (v := .ref (nt_a w 17)) rfl dX9_isTired_14 ?_
  refine nt_iload X dX9_isTired_17 0 rfl ?_
  obtain ⟨q2, h⟩ := nt_R_gd h
  refine nt_iald X 17 0 (nt_lM hw (Nat.le_of_ble_eq_true rfl)) (nt_m17 hw) (nt_tM hw) q2 dX9_isTired_19 ?_
  obtain ⟨ht, hf⟩ := nt_R_if h
  refine nt_if_ne X 46 dX9_isTired_20 (by decide) (fun q3 => ?_) (fun q3 => ?_)
  · have h := hf q3
    refine nt_sub [1, 0] rfl ?_
    exact tjMo_isTired_46 hw X v1 g h
  · have h := ht q3
    refine nt_aload_n X dX9_isTired_23 rfl 1 rfl ?_
    refine nt_get X 0 inX9 (nt_lM hw (Nat.le_of_ble_eq_true rfl)) (nt_m0 hw) rfl (j := 40) (by decide) wd_662 (v := .ref (nt_a w 17)) rfl dX9_isTired_24 ?_
    refine nt_iload X dX9_isTired_27 0 rfl ?_
    refine nt_aload_n X dX9_isTired_29 rfl 1 rfl ?_
    refine nt_iconst X dX9_isTired_30 nt_ci_2 ?_
    refine nt_iload_n X dX9_isTired_31 rfl 2 rfl ?_
    refine nt_iload_n X dX9_isTired_32 rfl 3 rfl ?_
    refine nt_iload_n X dX9_isTired_33 rfl 4 rfl ?_
    obtain ⟨r6, g7, er6, h⟩ := nt_R_b2 h
    refine nt_cVi X (As := [.int (2 : Int32), .int x1, .int x2, .int x3]) 0 (nt_lM hw (Nat.le_of_ble_eq_true rfl)) (nt_m0 hw) rfl (cMo_says hw er6) wd_876 wd_874 wd_875 wd_1103 wd_16 rfl hd_X9_says ⟨Nat.le_of_ble_eq_true rfl, Nat.le_of_ble_eq_true rfl⟩ ⟨Nat.le_refl 0, Nat.le_refl 0⟩ (Nat.le_of_ble_eq_true rfl) rfl dX9_isTired_34 ?_
    obtain ⟨ht, hf⟩ := nt_R_if h
    refine nt_if_ne X 44 dX9_isTired_37 (by decide) (fun q8 => ?_) (fun q8 => ?_)
    · have h := hf q8
      refine nt_iconst X dX9_isTired_44 nt_ci_2 ?_
      refine nt_sub [1, 0] rfl ?_
      exact tjMo_isTired_45 hw X v1 (2 : Int32) v1 g7 h
    · have h := ht q8
      refine nt_iconst X dX9_isTired_40 nt_ci_1 ?_
      refine nt_goto X 45 dX9_isTired_41 (by decide) ?_
      refine nt_sub [1, 0] rfl ?_
      exact tjMo_isTired_45 hw X v1 (1 : Int32) v1 g7 h
def bMo_anyMay_18 (x1 : Int32) (x2 : Int32) (x3 : Int32) (x4 : Int32) (g : nt_T) : Option ((Int32 × nt_T) ⊕ ((nt_T) ⊕ (nt_T))) :=
  (if (g 0 17) ≤ x4 then
    (some (.inr (.inr g)))
  else
    (nt_lt (x1 &&& (((1 : Int32) <<< (x4 &&& 31)) ^^^ (-1 : Int32))) fun v4 => (if ((x1 >>> (x4 &&& 31)) &&& (1 : Int32)) = (1 : Int32) then
    (nt_gd (nt_in x4 9) <| (if (((g 9 (Int32.toNatClampNeg x4)) >>> (x3 &&& 31)) &&& (1 : Int32)) = (1 : Int32) then
    ((if v4 = 0 then
    (nt_lt (x4 + (1 : Int32)) fun v11 => some (.inl (v11, g)))
  else
    (nt_gd (nt_in x3 8) <| (if ((g 16 (Int32.toNatClampNeg x3)) &&& v4) = 0 then
    (nt_b2 (fMo_isTired x4 x3 x2 g) fun r15 g16 => (if r15 = 0 then
    (some (.inr (.inl g16)))
  else
    (nt_lt (x4 + (1 : Int32)) fun v18 => some (.inl (v18, g16)))))
  else
    (nt_lt (x4 + (1 : Int32)) fun v14 => some (.inl (v14, g)))))))
  else
    (nt_lt (x4 + (1 : Int32)) fun v9 => some (.inl (v9, g)))))
  else
    (nt_lt (x4 + (1 : Int32)) fun v6 => some (.inl (v6, g))))))
set_option maxRecDepth 100000 in
set_option maxHeartbeats 4000000 in
theorem tbMo_anyMay_18 {p : Program} {l : Launch} {e : Env} {s : State} {m : MethodId} {args : Array Value} {below : List Frame} {meth : Method} {c : Code} {w : nt_w} {A : Nat → Prop} (hw : nt_isM w) {Q : State → Prop} (X : nt_X cX9_anyMay 6 RX9 (some .boolean) w A p s m args meth c) (x1 : Int32) (x2 : Int32) (x3 : Int32)  {Qx : ((nt_T) ⊕ (nt_T)) → Prop} (hE0 : ∀ (gy : nt_T), Qx (.inl gy) → nt_G p l e (nt_rm 79) s m args below meth c w A 0 0 Q 6 90 [(0, .ref (nt_a w 0)), (1, .int x1), (2, .int x2), (3, .int x3)] [] gy) (hE1 : ∀ (gy : nt_T), Qx (.inr gy) → nt_G p l e (nt_rm 79) s m args below meth c w A 0 0 Q 6 98 [(0, .ref (nt_a w 0)), (1, .int x1), (2, .int x2), (3, .int x3)] [] gy) : ∀ (n : Nat) (x4 : Int32) (g : nt_T), nt_R (nt_it (fun z => bMo_anyMay_18 x1 x2 x3 z.1 z.2) n (x4, g)) Qx → nt_G p l e (nt_rm 79) s m args below meth c w A 0 0 Q 6 18 [(0, .ref (nt_a w 0)), (1, .int x1), (2, .int x2), (3, .int x3), (4, .int x4)] [] g := by
  intro n
  induction n with
  | zero =>
    intro x4 g h
    exact nt_R_none h
  | succ n ih =>
    intro x4 g h
    have h : nt_R (bMo_anyMay_18 x1 x2 x3 x4 g) (nt_Qz (fun z => bMo_anyMay_18 x1 x2 x3 z.1 z.2) n Qx) := nt_R_it h
    have hI : ∀ (y4 : Int32) (gy : nt_T), nt_Qz (fun z => bMo_anyMay_18 x1 x2 x3 z.1 z.2) n Qx (.inl (y4, gy)) → nt_G p l e (nt_rm 79) s m args below meth c w A 0 0 Q 6 18 [(0, .ref (nt_a w 0)), (1, .int x1), (2, .int x2), (3, .int x3), (4, .int y4)] [] gy := fun y4 gy q => ih y4 gy q
    have hE0 : ∀ (gy : nt_T), nt_Qz (fun z => bMo_anyMay_18 x1 x2 x3 z.1 z.2) n Qx (.inr (.inl gy)) → nt_G p l e (nt_rm 79) s m args below meth c w A 0 0 Q 6 90 [(0, .ref (nt_a w 0)), (1, .int x1), (2, .int x2), (3, .int x3)] [] gy := hE0
    have hE1 : ∀ (gy : nt_T), nt_Qz (fun z => bMo_anyMay_18 x1 x2 x3 z.1 z.2) n Qx (.inr (.inr gy)) → nt_G p l e (nt_rm 79) s m args below meth c w A 0 0 Q 6 98 [(0, .ref (nt_a w 0)), (1, .int x1), (2, .int x2), (3, .int x3)] [] gy := hE1
    generalize nt_Qz (fun z => bMo_anyMay_18 x1 x2 x3 z.1 z.2) n Qx = Qz at h hI hE0 hE1
    unfold bMo_anyMay_18 at h
    refine nt_iload X dX9_anyMay_18 4 rfl ?_
    refine nt_aload_n X dX9_anyMay_20 rfl 0 rfl ?_
    refine nt_get X 0 inX9 (nt_lM hw (Nat.le_of_ble_eq_true rfl)) (nt_m0 hw) rfl (j := 17) (by decide) wd_639 (v := .int (g 0 17)) rfl dX9_anyMay_21 ?_
    obtain ⟨ht, hf⟩ := nt_R_if h
    refine nt_icmp_ge X 98 dX9_anyMay_24 (by decide) (fun q3 => ?_) (fun q3 => ?_)
    · have h := ht q3
      refine nt_sub [0, 1, 2, 3] rfl ?_
      have h := nt_R_some h
      exact hE1 g h
    · have h := hf q3
      refine nt_iload_n X dX9_anyMay_27 rfl 1 rfl ?_
      refine nt_iconst X dX9_anyMay_28 nt_ci_1 ?_
      refine nt_iload X dX9_anyMay_29 4 rfl ?_
      refine nt_ishl X dX9_anyMay_31 ?_
      refine nt_iconst X dX9_anyMay_32 nt_ci_m1 ?_
      refine nt_ixor X dX9_anyMay_33 ?_
      refine nt_iand X dX9_anyMay_34 ?_
      obtain ⟨v4, ev4, h⟩ := nt_R_lt h
      refine nt_topi ev4 ?_
      refine nt_istore X [(5, .int v4), (0, .ref (nt_a w 0)), (1, .int x1), (2, .int x2), (3, .int x3), (4, .int x4)] dX9_anyMay_35 (by decide) rfl ?_
      refine nt_iload_n X dX9_anyMay_37 rfl 2 rfl ?_
      refine nt_iload X dX9_anyMay_38 5 rfl ?_
      refine nt_ishr X dX9_anyMay_40 ?_
      refine nt_iconst X dX9_anyMay_41 nt_ci_1 ?_
      refine nt_iand X dX9_anyMay_42 ?_
      refine nt_iconst X dX9_anyMay_43 nt_ci_1 ?_
      obtain ⟨ht, hf⟩ := nt_R_if h
      refine nt_icmp_ne X 92 dX9_anyMay_44 (by decide) (fun q5 => ?_) (fun q5 => ?_)
      · have h := hf q5
        obtain ⟨v6, ev6, h⟩ := nt_R_lt h
        refine nt_iinc X v6 [(4, .int v6), (5, .int v4), (0, .ref (nt_a w 0)), (1, .int x1), (2, .int x2), (3, .int x3)] dX9_anyMay_92 5 rfl (by rw [nt_ci_1]; exact ev6) (by decide) rfl ?_
        refine nt_goto X 18 dX9_anyMay_95 (by decide) ?_
        refine nt_sub [2, 3, 4, 5, 0] rfl ?_
        have h := nt_R_some h
        exact hI v6 g h
      · have h := ht q5
        refine nt_aload_n X dX9_anyMay_47 rfl 1 rfl ?_
        refine nt_get X 0 inX9 (nt_lM hw (Nat.le_of_ble_eq_true rfl)) (nt_m0 hw) rfl (j := 13) (by decide) wd_635 (v := .ref (nt_a w 9)) rfl dX9_anyMay_48 ?_
        refine nt_iload X dX9_anyMay_51 5 rfl ?_
        obtain ⟨q7, h⟩ := nt_R_gd h
        refine nt_iald X 9 0 (nt_lM hw (Nat.le_of_ble_eq_true rfl)) (nt_m9 hw) (nt_tM hw) q7 dX9_anyMay_53 ?_
        refine nt_iload_n X dX9_anyMay_54 rfl 4 rfl ?_
        refine nt_ishr X dX9_anyMay_55 ?_
        refine nt_iconst X dX9_anyMay_56 nt_ci_1 ?_
        refine nt_iand X dX9_anyMay_57 ?_
        refine nt_iconst X dX9_anyMay_58 nt_ci_1 ?_
        obtain ⟨ht, hf⟩ := nt_R_if h
        refine nt_icmp_ne X 92 dX9_anyMay_59 (by decide) (fun q8 => ?_) (fun q8 => ?_)
        · have h := hf q8
          obtain ⟨v9, ev9, h⟩ := nt_R_lt h
          refine nt_iinc X v9 [(4, .int v9), (5, .int v4), (0, .ref (nt_a w 0)), (1, .int x1), (2, .int x2), (3, .int x3)] dX9_anyMay_92 5 rfl (by rw [nt_ci_1]; exact ev9) (by decide) rfl ?_
          refine nt_goto X 18 dX9_anyMay_95 (by decide) ?_
          refine nt_sub [2, 3, 4, 5, 0] rfl ?_
          have h := nt_R_some h
          exact hI v9 g h
        · have h := ht q8
          refine nt_iload X dX9_anyMay_62 0 rfl ?_
          obtain ⟨ht, hf⟩ := nt_R_if h
          refine nt_if_eq X 92 dX9_anyMay_64 (by decide) (fun q10 => ?_) (fun q10 => ?_)
          · have h := ht q10
            obtain ⟨v11, ev11, h⟩ := nt_R_lt h
            refine nt_iinc X v11 [(4, .int v11), (5, .int v4), (0, .ref (nt_a w 0)), (1, .int x1), (2, .int x2), (3, .int x3)] dX9_anyMay_92 5 rfl (by rw [nt_ci_1]; exact ev11) (by decide) rfl ?_
            refine nt_goto X 18 dX9_anyMay_95 (by decide) ?_
            refine nt_sub [2, 3, 4, 5, 0] rfl ?_
            have h := nt_R_some h
            exact hI v11 g h
          · have h := hf q10
            refine nt_aload_n X dX9_anyMay_67 rfl 1 rfl ?_
            refine nt_get X 0 inX9 (nt_lM hw (Nat.le_of_ble_eq_true rfl)) (nt_m0 hw) rfl (j := 39) (by decide) wd_661 (v := .ref (nt_a w 16)) rfl dX9_anyMay_68 ?_
            refine nt_iload_n X dX9_anyMay_71 rfl 4 rfl ?_
            obtain ⟨q12, h⟩ := nt_R_gd h
            refine nt_iald X 16 0 (nt_lM hw (Nat.le_of_ble_eq_true rfl)) (nt_m16 hw) (nt_tM hw) q12 dX9_anyMay_72 ?_
            refine nt_iload X dX9_anyMay_73 0 rfl ?_
            refine nt_iand X dX9_anyMay_75 ?_
            obtain ⟨ht, hf⟩ := nt_R_if h
            refine nt_if_ne X 92 dX9_anyMay_76 (by decide) (fun q13 => ?_) (fun q13 => ?_)
            · have h := hf q13
              obtain ⟨v14, ev14, h⟩ := nt_R_lt h
              refine nt_iinc X v14 [(4, .int v14), (5, .int v4), (0, .ref (nt_a w 0)), (1, .int x1), (2, .int x2), (3, .int x3)] dX9_anyMay_92 5 rfl (by rw [nt_ci_1]; exact ev14) (by decide) rfl ?_
              refine nt_goto X 18 dX9_anyMay_95 (by decide) ?_
              refine nt_sub [2, 3, 4, 5, 0] rfl ?_
              have h := nt_R_some h
              exact hI v14 g h
            · have h := ht q13
              refine nt_aload_n X dX9_anyMay_79 rfl 1 rfl ?_
              refine nt_iload X dX9_anyMay_80 5 rfl ?_
              refine nt_iload_n X dX9_anyMay_82 rfl 4 rfl ?_
              refine nt_iload_n X dX9_anyMay_83 rfl 3 rfl ?_
              obtain ⟨r15, g16, er15, h⟩ := nt_R_b2 h
              refine nt_cVi X (As := [.int x4, .int x3, .int x2]) 0 (nt_lM hw (Nat.le_of_ble_eq_true rfl)) (nt_m0 hw) rfl (cMo_isTired hw er15) wd_938 wd_936 wd_937 wd_1112 wd_16 rfl hd_X9_isTired ⟨Nat.le_of_ble_eq_true rfl, Nat.le_of_ble_eq_true rfl⟩ ⟨Nat.le_refl 0, Nat.le_refl 0⟩ (Nat.le_of_ble_eq_true rfl) rfl dX9_anyMay_84 ?_
              obtain ⟨ht, hf⟩ := nt_R_if h
              refine nt_if_ne X 92 dX9_anyMay_87 (by decide) (fun q17 => ?_) (fun q17 => ?_)
              · have h := hf q17
                obtain ⟨v18, ev18, h⟩ := nt_R_lt h
                refine nt_iinc X v18 [(4, .int v18), (5, .int v4), (0, .ref (nt_a w 0)), (1, .int x1), (2, .int x2), (3, .int x3)] dX9_anyMay_92 5 rfl (by rw [nt_ci_1]; exact ev18) (by decide) rfl ?_
                refine nt_goto X 18 dX9_anyMay_95 (by decide) ?_
                refine nt_sub [2, 3, 4, 5, 0] rfl ?_
                have h := nt_R_some h
                exact hI v18 g16 h
              · have h := ht q17
                refine nt_sub [1, 2, 3, 4] rfl ?_
                have h := nt_R_some h
                exact hE0 g16 h
def bMo_anyMay_7 (x1 : Int32) (x2 : Int32) (x3 : Int32) (g : nt_T) : Option ((Int32 × nt_T) ⊕ ((nt_T) ⊕ (nt_T))) :=
  (if (g 0 11) ≤ x3 then
    (some (.inr (.inr g)))
  else
    ((nt_b1 (nt_it (fun z => bMo_anyMay_18 x1 x2 x3 z.1 z.2) nt_fu ((0 : Int32), g)) fun z22 => match z22 with
  | (.inl g19) => some (.inr (.inl g19))
  | .inr (g20) => nt_lt (x3 + (1 : Int32)) fun v21 => some (.inl (v21, g20)))))
set_option maxRecDepth 100000 in
set_option maxHeartbeats 4000000 in
theorem tbMo_anyMay_7 {p : Program} {l : Launch} {e : Env} {s : State} {m : MethodId} {args : Array Value} {below : List Frame} {meth : Method} {c : Code} {w : nt_w} {A : Nat → Prop} (hw : nt_isM w) {Q : State → Prop} (X : nt_X cX9_anyMay 6 RX9 (some .boolean) w A p s m args meth c) (x1 : Int32) (x2 : Int32)  {Qx : ((nt_T) ⊕ (nt_T)) → Prop} (hE0 : ∀ (gy : nt_T), Qx (.inl gy) → nt_G p l e (nt_rm 79) s m args below meth c w A 0 0 Q 6 90 [(0, .ref (nt_a w 0)), (1, .int x1), (2, .int x2)] [] gy) (hE1 : ∀ (gy : nt_T), Qx (.inr gy) → nt_G p l e (nt_rm 79) s m args below meth c w A 0 0 Q 6 104 [(0, .ref (nt_a w 0)), (1, .int x1), (2, .int x2)] [] gy) : ∀ (n : Nat) (x3 : Int32) (g : nt_T), nt_R (nt_it (fun z => bMo_anyMay_7 x1 x2 z.1 z.2) n (x3, g)) Qx → nt_G p l e (nt_rm 79) s m args below meth c w A 0 0 Q 6 7 [(0, .ref (nt_a w 0)), (1, .int x1), (2, .int x2), (3, .int x3)] [] g := by
  intro n
  induction n with
  | zero =>
    intro x3 g h
    exact nt_R_none h
  | succ n ih =>
    intro x3 g h
    have h : nt_R (bMo_anyMay_7 x1 x2 x3 g) (nt_Qz (fun z => bMo_anyMay_7 x1 x2 z.1 z.2) n Qx) := nt_R_it h
    have hI : ∀ (y3 : Int32) (gy : nt_T), nt_Qz (fun z => bMo_anyMay_7 x1 x2 z.1 z.2) n Qx (.inl (y3, gy)) → nt_G p l e (nt_rm 79) s m args below meth c w A 0 0 Q 6 7 [(0, .ref (nt_a w 0)), (1, .int x1), (2, .int x2), (3, .int y3)] [] gy := fun y3 gy q => ih y3 gy q
    have hE0 : ∀ (gy : nt_T), nt_Qz (fun z => bMo_anyMay_7 x1 x2 z.1 z.2) n Qx (.inr (.inl gy)) → nt_G p l e (nt_rm 79) s m args below meth c w A 0 0 Q 6 90 [(0, .ref (nt_a w 0)), (1, .int x1), (2, .int x2)] [] gy := hE0
    have hE1 : ∀ (gy : nt_T), nt_Qz (fun z => bMo_anyMay_7 x1 x2 z.1 z.2) n Qx (.inr (.inr gy)) → nt_G p l e (nt_rm 79) s m args below meth c w A 0 0 Q 6 104 [(0, .ref (nt_a w 0)), (1, .int x1), (2, .int x2)] [] gy := hE1
    generalize nt_Qz (fun z => bMo_anyMay_7 x1 x2 z.1 z.2) n Qx = Qz at h hI hE0 hE1
    unfold bMo_anyMay_7 at h
    refine nt_iload_n X dX9_anyMay_7 rfl 3 rfl ?_
    refine nt_aload_n X dX9_anyMay_8 rfl 0 rfl ?_
    refine nt_get X 0 inX9 (nt_lM hw (Nat.le_of_ble_eq_true rfl)) (nt_m0 hw) rfl (j := 11) (by decide) wd_633 (v := .int (g 0 11)) rfl dX9_anyMay_9 ?_
    obtain ⟨ht, hf⟩ := nt_R_if h
    refine nt_icmp_ge X 104 dX9_anyMay_12 (by decide) (fun q2 => ?_) (fun q2 => ?_)
    · have h := ht q2
      refine nt_sub [0, 1, 2] rfl ?_
      have h := nt_R_some h
      exact hE1 g h
    · have h := hf q2
      refine nt_iconst X dX9_anyMay_15 nt_ci_0 ?_
      refine nt_istore X [(4, .int (0 : Int32)), (0, .ref (nt_a w 0)), (1, .int x1), (2, .int x2), (3, .int x3)] dX9_anyMay_16 (by decide) rfl ?_
      obtain ⟨z22, hz22, h⟩ := nt_R_b1 h
      refine nt_sub [1, 2, 3, 4, 0] rfl ?_
      refine tbMo_anyMay_18 hw X x1 x2 x3 (Qx := fun z => z = z22) (fun g19 hq => ?_) (fun g20 hq => ?_) nt_fu (0 : Int32) g ⟨_, hz22, rfl⟩
      · subst hq
        refine nt_sub [0, 1, 2] rfl ?_
        have h := nt_R_some h
        exact hE0 g19 h
      · subst hq
        obtain ⟨v21, ev21, h⟩ := nt_R_lt h
        refine nt_iinc X v21 [(3, .int v21), (0, .ref (nt_a w 0)), (1, .int x1), (2, .int x2)] dX9_anyMay_98 3 rfl (by rw [nt_ci_1]; exact ev21) (by decide) rfl ?_
        refine nt_goto X 7 dX9_anyMay_101 (by decide) ?_
        refine nt_sub [1, 2, 3, 0] rfl ?_
        have h := nt_R_some h
        exact hI v21 g20 h
def fMo_anyMay (x1 : Int32) (g : nt_T) : Option (Int32 × nt_T) :=
  nt_b1 (fMo_bitsOf x1 g) fun r1 => (nt_b1 (nt_it (fun z => bMo_anyMay_7 x1 r1 z.1 z.2) nt_fu ((0 : Int32), g)) fun z25 => match z25 with
  | (.inl g23) => some ((1 : Int32), g23)
  | .inr (g24) => some ((0 : Int32), g24))
set_option maxRecDepth 100000 in
set_option maxHeartbeats 4000000 in
theorem cMo_anyMay {l : Launch} {w : nt_w} (hw : nt_isM w) {x1 : Int32} {g : nt_T} {r : Int32} {g2 : nt_T} (hf : fMo_anyMay x1 g = some (r, g2)) : nt_Mi l w yX9_anyMay cX9_anyMay 6 (some .boolean) 79 [.ref (nt_a w 0), .int x1] g r g2 := by
  refine nt_Mi_of (by decide) (Nat.le_of_ble_eq_true rfl) (fun p e s m args below meth c A X => ?_)
  have X : nt_X cX9_anyMay 6 RX9 (some .boolean) w A p s m args meth c := X
  have h : nt_R (fMo_anyMay x1 g) (fun z => z = (r, g2)) := ⟨_, hf, rfl⟩
  unfold fMo_anyMay at h
  show nt_G p l e (nt_rm 79) s m args below meth c w A 0 0 (nt_Qi w A below args s r g2) 6 0 [(0, .ref (nt_a w 0)), (1, .int x1)] [] g
  refine nt_iload_n X dX9_anyMay_0 rfl 1 rfl ?_
  obtain ⟨r1, er1, h⟩ := nt_R_b1 h
  refine nt_cSi X (As := [.int x1]) (cMo_bitsOf hw er1) wd_873 wd_871 wd_872 wd_16 hd_X9_bitsOf ⟨Nat.le_of_ble_eq_true rfl, Nat.le_of_ble_eq_true rfl⟩ ⟨Nat.le_refl 0, Nat.le_refl 0⟩ (Nat.le_of_ble_eq_true rfl) rfl dX9_anyMay_1 ?_
  refine nt_istore_n X [(2, .int r1), (0, .ref (nt_a w 0)), (1, .int x1)] dX9_anyMay_4 rfl (by decide) rfl ?_
  refine nt_iconst X dX9_anyMay_5 nt_ci_0 ?_
  refine nt_istore_n X [(3, .int (0 : Int32)), (2, .int r1), (0, .ref (nt_a w 0)), (1, .int x1)] dX9_anyMay_6 rfl (by decide) rfl ?_
  obtain ⟨z25, hz25, h⟩ := nt_R_b1 h
  refine nt_sub [2, 3, 1, 0] rfl ?_
  refine tbMo_anyMay_7 hw X x1 r1 (Qx := fun z => z = z25) (fun g23 hq => ?_) (fun g24 hq => ?_) nt_fu (0 : Int32) g ⟨_, hz25, rfl⟩
  · subst hq
    refine nt_iconst X dX9_anyMay_90 nt_ci_1 ?_
    have h := nt_R_some h
    exact nt_zret X rfl dX9_anyMay_91 h
  · subst hq
    refine nt_iconst X dX9_anyMay_104 nt_ci_0 ?_
    have h := nt_R_some h
    exact nt_zret X rfl dX9_anyMay_105 h
def bMo_housesWith_17 (x1 : Int32) (x2 : Int32) (x3 : Int32) (x4 : Int32) (g : nt_T) (x5 : Int32) (x6 : Int32) : Option ((Int32 × Int32) ⊕ ((Int32))) :=
  (if (g 0 17) ≤ x6 then
    (some (.inr x5))
  else
    (nt_b1 (fMo_digit x1 x2 x6 g) fun r3 => (if r3 = x4 then
    (nt_lt (x5 ||| ((1 : Int32) <<< (x6 &&& 31))) fun v6 => nt_lt (x6 + (1 : Int32)) fun v7 => some (.inl (v6, v7)))
  else
    (nt_lt (x6 + (1 : Int32)) fun v5 => some (.inl (x5, v5))))))
set_option maxRecDepth 100000 in
set_option maxHeartbeats 4000000 in
theorem tbMo_housesWith_17 {p : Program} {l : Launch} {e : Env} {s : State} {m : MethodId} {args : Array Value} {below : List Frame} {meth : Method} {c : Code} {w : nt_w} {A : Nat → Prop} (hw : nt_isM w) {Q : State → Prop} (X : nt_X cX9_housesWith 7 RX9 (some .int) w A p s m args meth c) (x1 : Int32) (x2 : Int32) (x3 : Int32) (x4 : Int32) (g : nt_T)  {Qx : ((Int32)) → Prop} (hE0 : ∀ (y5 : Int32), Qx y5 → nt_G p l e (nt_rm 81) s m args below meth c w A 0 0 Q 7 53 [(0, .ref (nt_a w 0)), (1, .int x1), (2, .int x2), (3, .int x3), (4, .int x4), (5, .int y5)] [] g) : ∀ (n : Nat) (x5 : Int32) (x6 : Int32), nt_R (nt_it (fun z => bMo_housesWith_17 x1 x2 x3 x4 g z.1 z.2) n (x5, x6)) Qx → nt_G p l e (nt_rm 81) s m args below meth c w A 0 0 Q 7 17 [(0, .ref (nt_a w 0)), (1, .int x1), (2, .int x2), (3, .int x3), (4, .int x4), (5, .int x5), (6, .int x6)] [] g := by
  intro n
  induction n with
  | zero =>
    intro x5 x6 h
    exact nt_R_none h
  | succ n ih =>
    intro x5 x6 h
    have h : nt_R (bMo_housesWith_17 x1 x2 x3 x4 g x5 x6) (nt_Qz (fun z => bMo_housesWith_17 x1 x2 x3 x4 g z.1 z.2) n Qx) := nt_R_it h
    have hI : ∀ (y5 : Int32) (y6 : Int32), nt_Qz (fun z => bMo_housesWith_17 x1 x2 x3 x4 g z.1 z.2) n Qx (.inl (y5, y6)) → nt_G p l e (nt_rm 81) s m args below meth c w A 0 0 Q 7 17 [(0, .ref (nt_a w 0)), (1, .int x1), (2, .int x2), (3, .int x3), (4, .int x4), (5, .int y5), (6, .int y6)] [] g := fun y5 y6 q => ih y5 y6 q
    have hE0 : ∀ (y5 : Int32), nt_Qz (fun z => bMo_housesWith_17 x1 x2 x3 x4 g z.1 z.2) n Qx (.inr y5) → nt_G p l e (nt_rm 81) s m args below meth c w A 0 0 Q 7 53 [(0, .ref (nt_a w 0)), (1, .int x1), (2, .int x2), (3, .int x3), (4, .int x4), (5, .int y5)] [] g := hE0
    generalize nt_Qz (fun z => bMo_housesWith_17 x1 x2 x3 x4 g z.1 z.2) n Qx = Qz at h hI hE0
    unfold bMo_housesWith_17 at h
    refine nt_iload X dX9_housesWith_17 6 rfl ?_
    refine nt_aload_n X dX9_housesWith_19 rfl 0 rfl ?_
    refine nt_get X 0 inX9 (nt_lM hw (Nat.le_of_ble_eq_true rfl)) (nt_m0 hw) rfl (j := 17) (by decide) wd_639 (v := .int (g 0 17)) rfl dX9_housesWith_20 ?_
    obtain ⟨ht, hf⟩ := nt_R_if h
    refine nt_icmp_ge X 53 dX9_housesWith_23 (by decide) (fun q2 => ?_) (fun q2 => ?_)
    · have h := ht q2
      refine nt_sub [0, 1, 2, 3, 4, 5] rfl ?_
      have h := nt_R_some h
      exact hE0 x5 h
    · have h := hf q2
      refine nt_iload_n X dX9_housesWith_26 rfl 1 rfl ?_
      refine nt_iload_n X dX9_housesWith_27 rfl 2 rfl ?_
      refine nt_iload X dX9_housesWith_28 6 rfl ?_
      obtain ⟨r3, er3, h⟩ := nt_R_b1 h
      refine nt_cSi X (As := [.int x1, .int x2, .int x6]) (cMo_digit hw er3) wd_932 wd_930 wd_931 wd_16 hd_X9_digit ⟨Nat.le_of_ble_eq_true rfl, Nat.le_of_ble_eq_true rfl⟩ ⟨Nat.le_refl 0, Nat.le_refl 0⟩ (Nat.le_of_ble_eq_true rfl) rfl dX9_housesWith_30 ?_
      refine nt_iload X dX9_housesWith_33 4 rfl ?_
      obtain ⟨ht, hf⟩ := nt_R_if h
      refine nt_icmp_ne X 47 dX9_housesWith_35 (by decide) (fun q4 => ?_) (fun q4 => ?_)
      · have h := hf q4
        obtain ⟨v5, ev5, h⟩ := nt_R_lt h
        refine nt_iinc X v5 [(6, .int v5), (0, .ref (nt_a w 0)), (1, .int x1), (2, .int x2), (3, .int x3), (4, .int x4), (5, .int x5)] dX9_housesWith_47 6 rfl (by rw [nt_ci_1]; exact ev5) (by decide) rfl ?_
        refine nt_goto X 17 dX9_housesWith_50 (by decide) ?_
        refine nt_sub [1, 2, 3, 4, 5, 6, 0] rfl ?_
        have h := nt_R_some h
        exact hI x5 v5 h
      · have h := ht q4
        refine nt_iload X dX9_housesWith_38 5 rfl ?_
        refine nt_iconst X dX9_housesWith_40 nt_ci_1 ?_
        refine nt_iload X dX9_housesWith_41 6 rfl ?_
        refine nt_ishl X dX9_housesWith_43 ?_
        refine nt_ior X dX9_housesWith_44 ?_
        obtain ⟨v6, ev6, h⟩ := nt_R_lt h
        refine nt_topi ev6 ?_
        refine nt_istore X [(5, .int v6), (0, .ref (nt_a w 0)), (1, .int x1), (2, .int x2), (3, .int x3), (4, .int x4), (6, .int x6)] dX9_housesWith_45 (by decide) rfl ?_
        obtain ⟨v7, ev7, h⟩ := nt_R_lt h
        refine nt_iinc X v7 [(6, .int v7), (5, .int v6), (0, .ref (nt_a w 0)), (1, .int x1), (2, .int x2), (3, .int x3), (4, .int x4)] dX9_housesWith_47 6 rfl (by rw [nt_ci_1]; exact ev7) (by decide) rfl ?_
        refine nt_goto X 17 dX9_housesWith_50 (by decide) ?_
        refine nt_sub [2, 3, 4, 5, 6, 1, 0] rfl ?_
        have h := nt_R_some h
        exact hI v6 v7 h
def bMo_housesWith_5 (x1 : Int32) (x2 : Int32) (x3 : Int32) (x4 : Int32) (g : nt_T) : Option ((Int32 × Int32 × nt_T) ⊕ ((Int32 × nt_T))) :=
  (if x2 ≤ x4 then
    (some (.inr (x3, g)))
  else
    ((nt_b1 (nt_it (fun z => bMo_housesWith_17 x1 x2 x3 x4 g z.1 z.2) nt_fu ((0 : Int32), (0 : Int32))) fun v8 => nt_b2 (fMo_anyMay v8 g) fun r9 g10 => (if r9 = 0 then
    (nt_lt (x3 + (0 : Int32)) fun v12 => nt_lt (x4 + (1 : Int32)) fun v13 => some (.inl (v12, v13, g10)))
  else
    (nt_lt (x3 + (1 : Int32)) fun v14 => nt_lt (x4 + (1 : Int32)) fun v15 => some (.inl (v14, v15, g10)))))))
set_option maxRecDepth 100000 in
set_option maxHeartbeats 4000000 in
theorem tbMo_housesWith_5 {p : Program} {l : Launch} {e : Env} {s : State} {m : MethodId} {args : Array Value} {below : List Frame} {meth : Method} {c : Code} {w : nt_w} {A : Nat → Prop} (hw : nt_isM w) {Q : State → Prop} (X : nt_X cX9_housesWith 7 RX9 (some .int) w A p s m args meth c) (x1 : Int32) (x2 : Int32)  {Qx : ((Int32 × nt_T)) → Prop} (hE0 : ∀ (y3 : Int32) (gy : nt_T), Qx (y3, gy) → nt_G p l e (nt_rm 81) s m args below meth c w A 0 0 Q 7 76 [(0, .ref (nt_a w 0)), (1, .int x1), (2, .int x2), (3, .int y3)] [] gy) : ∀ (n : Nat) (x3 : Int32) (x4 : Int32) (g : nt_T), nt_R (nt_it (fun z => bMo_housesWith_5 x1 x2 z.1 z.2.1 z.2.2) n (x3, x4, g)) Qx → nt_G p l e (nt_rm 81) s m args below meth c w A 0 0 Q 7 5 [(0, .ref (nt_a w 0)), (1, .int x1), (2, .int x2), (3, .int x3), (4, .int x4)] [] g := by
  intro n
  induction n with
  | zero =>
    intro x3 x4 g h
    exact nt_R_none h
  | succ n ih =>
    intro x3 x4 g h
    have h : nt_R (bMo_housesWith_5 x1 x2 x3 x4 g) (nt_Qz (fun z => bMo_housesWith_5 x1 x2 z.1 z.2.1 z.2.2) n Qx) := nt_R_it h
    have hI : ∀ (y3 : Int32) (y4 : Int32) (gy : nt_T), nt_Qz (fun z => bMo_housesWith_5 x1 x2 z.1 z.2.1 z.2.2) n Qx (.inl (y3, y4, gy)) → nt_G p l e (nt_rm 81) s m args below meth c w A 0 0 Q 7 5 [(0, .ref (nt_a w 0)), (1, .int x1), (2, .int x2), (3, .int y3), (4, .int y4)] [] gy := fun y3 y4 gy q => ih y3 y4 gy q
    have hE0 : ∀ (y3 : Int32) (gy : nt_T), nt_Qz (fun z => bMo_housesWith_5 x1 x2 z.1 z.2.1 z.2.2) n Qx (.inr (y3, gy)) → nt_G p l e (nt_rm 81) s m args below meth c w A 0 0 Q 7 76 [(0, .ref (nt_a w 0)), (1, .int x1), (2, .int x2), (3, .int y3)] [] gy := hE0
    generalize nt_Qz (fun z => bMo_housesWith_5 x1 x2 z.1 z.2.1 z.2.2) n Qx = Qz at h hI hE0
    unfold bMo_housesWith_5 at h
    refine nt_iload X dX9_housesWith_5 4 rfl ?_
    refine nt_iload_n X dX9_housesWith_7 rfl 2 rfl ?_
    obtain ⟨ht, hf⟩ := nt_R_if h
    refine nt_icmp_ge X 76 dX9_housesWith_8 (by decide) (fun q1 => ?_) (fun q1 => ?_)
    · have h := ht q1
      refine nt_sub [0, 1, 2, 3] rfl ?_
      have h := nt_R_some h
      exact hE0 x3 g h
    · have h := hf q1
      refine nt_iconst X dX9_housesWith_11 nt_ci_0 ?_
      refine nt_istore X [(5, .int (0 : Int32)), (0, .ref (nt_a w 0)), (1, .int x1), (2, .int x2), (3, .int x3), (4, .int x4)] dX9_housesWith_12 (by decide) rfl ?_
      refine nt_iconst X dX9_housesWith_14 nt_ci_0 ?_
      refine nt_istore X [(6, .int (0 : Int32)), (5, .int (0 : Int32)), (0, .ref (nt_a w 0)), (1, .int x1), (2, .int x2), (3, .int x3), (4, .int x4)] dX9_housesWith_15 (by decide) rfl ?_
      obtain ⟨z16, hz16, h⟩ := nt_R_b1 h
      refine nt_sub [2, 3, 4, 5, 6, 1, 0] rfl ?_
      refine tbMo_housesWith_17 hw X x1 x2 x3 x4 g (Qx := fun z => z = z16) (fun v8 hq => ?_) nt_fu (0 : Int32) (0 : Int32) ⟨_, hz16, rfl⟩
      subst hq
      refine nt_iload_n X dX9_housesWith_53 rfl 3 rfl ?_
      refine nt_aload_n X dX9_housesWith_54 rfl 0 rfl ?_
      refine nt_iload X dX9_housesWith_55 5 rfl ?_
      obtain ⟨r9, g10, er9, h⟩ := nt_R_b2 h
      refine nt_cVi X (As := [.int v8]) 0 (nt_lM hw (Nat.le_of_ble_eq_true rfl)) (nt_m0 hw) rfl (cMo_anyMay hw er9) wd_935 wd_933 wd_934 wd_1111 wd_16 rfl hd_X9_anyMay ⟨Nat.le_of_ble_eq_true rfl, Nat.le_of_ble_eq_true rfl⟩ ⟨Nat.le_refl 0, Nat.le_refl 0⟩ (Nat.le_of_ble_eq_true rfl) rfl dX9_housesWith_57 ?_
      obtain ⟨ht, hf⟩ := nt_R_if h
      refine nt_if_eq X 67 dX9_housesWith_60 (by decide) (fun q11 => ?_) (fun q11 => ?_)
      · have h := ht q11
        refine nt_iconst X dX9_housesWith_67 nt_ci_0 ?_
        refine nt_iadd X dX9_housesWith_68 ?_
        obtain ⟨v12, ev12, h⟩ := nt_R_lt h
        refine nt_topi ev12 ?_
        refine nt_istore_n X [(3, .int v12), (0, .ref (nt_a w 0)), (1, .int x1), (2, .int x2), (4, .int x4), (5, .int v8)] dX9_housesWith_69 rfl (by decide) rfl ?_
        obtain ⟨v13, ev13, h⟩ := nt_R_lt h
        refine nt_iinc X v13 [(4, .int v13), (3, .int v12), (0, .ref (nt_a w 0)), (1, .int x1), (2, .int x2), (5, .int v8)] dX9_housesWith_70 4 rfl (by rw [nt_ci_1]; exact ev13) (by decide) rfl ?_
        refine nt_goto X 5 dX9_housesWith_73 (by decide) ?_
        refine nt_sub [2, 3, 4, 1, 0] rfl ?_
        have h := nt_R_some h
        exact hI v12 v13 g10 h
      · have h := hf q11
        refine nt_iconst X dX9_housesWith_63 nt_ci_1 ?_
        refine nt_goto X 68 dX9_housesWith_64 (by decide) ?_
        refine nt_iadd X dX9_housesWith_68 ?_
        obtain ⟨v14, ev14, h⟩ := nt_R_lt h
        refine nt_topi ev14 ?_
        refine nt_istore_n X [(3, .int v14), (0, .ref (nt_a w 0)), (1, .int x1), (2, .int x2), (4, .int x4), (5, .int v8)] dX9_housesWith_69 rfl (by decide) rfl ?_
        obtain ⟨v15, ev15, h⟩ := nt_R_lt h
        refine nt_iinc X v15 [(4, .int v15), (3, .int v14), (0, .ref (nt_a w 0)), (1, .int x1), (2, .int x2), (5, .int v8)] dX9_housesWith_70 4 rfl (by rw [nt_ci_1]; exact ev15) (by decide) rfl ?_
        refine nt_goto X 5 dX9_housesWith_73 (by decide) ?_
        refine nt_sub [2, 3, 4, 1, 0] rfl ?_
        have h := nt_R_some h
        exact hI v14 v15 g10 h
def fMo_housesWith (x1 : Int32) (x2 : Int32) (g : nt_T) : Option (Int32 × nt_T) :=
  (nt_b1 (nt_it (fun z => bMo_housesWith_5 x1 x2 z.1 z.2.1 z.2.2) nt_fu ((0 : Int32), (0 : Int32), g)) fun z19 => match z19 with
  | (v17, g18) => some (v17, g18))
set_option maxRecDepth 100000 in
set_option maxHeartbeats 4000000 in
theorem cMo_housesWith {l : Launch} {w : nt_w} (hw : nt_isM w) {x1 : Int32} {x2 : Int32} {g : nt_T} {r : Int32} {g2 : nt_T} (hf : fMo_housesWith x1 x2 g = some (r, g2)) : nt_Mi l w yX9_housesWith cX9_housesWith 7 (some .int) 81 [.ref (nt_a w 0), .int x1, .int x2] g r g2 := by
  refine nt_Mi_of (by decide) (Nat.le_of_ble_eq_true rfl) (fun p e s m args below meth c A X => ?_)
  have X : nt_X cX9_housesWith 7 RX9 (some .int) w A p s m args meth c := X
  have h : nt_R (fMo_housesWith x1 x2 g) (fun z => z = (r, g2)) := ⟨_, hf, rfl⟩
  unfold fMo_housesWith at h
  show nt_G p l e (nt_rm 81) s m args below meth c w A 0 0 (nt_Qi w A below args s r g2) 7 0 [(0, .ref (nt_a w 0)), (1, .int x1), (2, .int x2)] [] g
  refine nt_iconst X dX9_housesWith_0 nt_ci_0 ?_
  refine nt_istore_n X [(3, .int (0 : Int32)), (0, .ref (nt_a w 0)), (1, .int x1), (2, .int x2)] dX9_housesWith_1 rfl (by decide) rfl ?_
  refine nt_iconst X dX9_housesWith_2 nt_ci_0 ?_
  refine nt_istore X [(4, .int (0 : Int32)), (3, .int (0 : Int32)), (0, .ref (nt_a w 0)), (1, .int x1), (2, .int x2)] dX9_housesWith_3 (by decide) rfl ?_
  obtain ⟨z19, hz19, h⟩ := nt_R_b1 h
  refine nt_sub [2, 3, 4, 1, 0] rfl ?_
  refine tbMo_housesWith_5 hw X x1 x2 (Qx := fun z => z = z19) (fun v17 g18 hq => ?_) nt_fu (0 : Int32) (0 : Int32) g ⟨_, hz19, rfl⟩
  subst hq
  refine nt_iload_n X dX9_housesWith_76 rfl 3 rfl ?_
  have h := nt_R_some h
  exact nt_iret X dX9_housesWith_77 h
def bMo_spread_33 (x1 : Int32) (x2 : Int32) (g : nt_T) (x3 : Int32) (x4 : Int32) : Option ((Int32 × Int32) ⊕ ((Int32))) :=
  (if (g 0 17) ≤ x4 then
    (some (.inr x3))
  else
    ((if (4096 : Int32) < x3 then
    (some (.inr x3))
  else
    (nt_lt (x3 * x1) fun v6 => nt_lt (x4 + (1 : Int32)) fun v7 => some (.inl (v6, v7))))))
set_option maxRecDepth 100000 in
set_option maxHeartbeats 4000000 in
theorem tbMo_spread_33 {p : Program} {l : Launch} {e : Env} {s : State} {m : MethodId} {args : Array Value} {below : List Frame} {meth : Method} {c : Code} {w : nt_w} {A : Nat → Prop} (hw : nt_isM w) {Q : State → Prop} (X : nt_X cX9_spread 8 RX9 (some .int) w A p s m args meth c) (x1 : Int32) (x2 : Int32) (g : nt_T)  {Qx : ((Int32)) → Prop} (hE0 : ∀ (y3 : Int32), Qx y3 → nt_G p l e (nt_rm 83) s m args below meth c w A 0 0 Q 8 59 [(0, .ref (nt_a w 0)), (1, .int x1), (2, .int x2), (3, .int y3)] [] g) : ∀ (n : Nat) (x3 : Int32) (x4 : Int32), nt_R (nt_it (fun z => bMo_spread_33 x1 x2 g z.1 z.2) n (x3, x4)) Qx → nt_G p l e (nt_rm 83) s m args below meth c w A 0 0 Q 8 33 [(0, .ref (nt_a w 0)), (1, .int x1), (2, .int x2), (3, .int x3), (4, .int x4)] [] g := by
  intro n
  induction n with
  | zero =>
    intro x3 x4 h
    exact nt_R_none h
  | succ n ih =>
    intro x3 x4 h
    have h : nt_R (bMo_spread_33 x1 x2 g x3 x4) (nt_Qz (fun z => bMo_spread_33 x1 x2 g z.1 z.2) n Qx) := nt_R_it h
    have hI : ∀ (y3 : Int32) (y4 : Int32), nt_Qz (fun z => bMo_spread_33 x1 x2 g z.1 z.2) n Qx (.inl (y3, y4)) → nt_G p l e (nt_rm 83) s m args below meth c w A 0 0 Q 8 33 [(0, .ref (nt_a w 0)), (1, .int x1), (2, .int x2), (3, .int y3), (4, .int y4)] [] g := fun y3 y4 q => ih y3 y4 q
    have hE0 : ∀ (y3 : Int32), nt_Qz (fun z => bMo_spread_33 x1 x2 g z.1 z.2) n Qx (.inr y3) → nt_G p l e (nt_rm 83) s m args below meth c w A 0 0 Q 8 59 [(0, .ref (nt_a w 0)), (1, .int x1), (2, .int x2), (3, .int y3)] [] g := hE0
    generalize nt_Qz (fun z => bMo_spread_33 x1 x2 g z.1 z.2) n Qx = Qz at h hI hE0
    unfold bMo_spread_33 at h
    refine nt_iload X dX9_spread_33 4 rfl ?_
    refine nt_aload_n X dX9_spread_35 rfl 0 rfl ?_
    refine nt_get X 0 inX9 (nt_lM hw (Nat.le_of_ble_eq_true rfl)) (nt_m0 hw) rfl (j := 17) (by decide) wd_639 (v := .int (g 0 17)) rfl dX9_spread_36 ?_
    obtain ⟨ht, hf⟩ := nt_R_if h
    refine nt_icmp_ge X 59 dX9_spread_39 (by decide) (fun q4 => ?_) (fun q4 => ?_)
    · have h := ht q4
      refine nt_sub [0, 1, 2, 3] rfl ?_
      have h := nt_R_some h
      exact hE0 x3 h
    · have h := hf q4
      refine nt_iload_n X dX9_spread_42 rfl 3 rfl ?_
      refine nt_sipush X dX9_spread_43 nt_cs_4096 ?_
      obtain ⟨ht, hf⟩ := nt_R_if h
      refine nt_icmp_gt X 59 dX9_spread_46 (by decide) (fun q5 => ?_) (fun q5 => ?_)
      · have h := ht q5
        refine nt_sub [0, 1, 2, 3] rfl ?_
        have h := nt_R_some h
        exact hE0 x3 h
      · have h := hf q5
        refine nt_iload_n X dX9_spread_49 rfl 3 rfl ?_
        refine nt_iload_n X dX9_spread_50 rfl 1 rfl ?_
        refine nt_imul X dX9_spread_51 ?_
        obtain ⟨v6, ev6, h⟩ := nt_R_lt h
        refine nt_topi ev6 ?_
        refine nt_istore_n X [(3, .int v6), (0, .ref (nt_a w 0)), (1, .int x1), (2, .int x2), (4, .int x4)] dX9_spread_52 rfl (by decide) rfl ?_
        obtain ⟨v7, ev7, h⟩ := nt_R_lt h
        refine nt_iinc X v7 [(4, .int v7), (3, .int v6), (0, .ref (nt_a w 0)), (1, .int x1), (2, .int x2)] dX9_spread_53 4 rfl (by rw [nt_ci_1]; exact ev7) (by decide) rfl ?_
        refine nt_goto X 33 dX9_spread_56 (by decide) ?_
        refine nt_sub [2, 3, 4, 1, 0] rfl ?_
        have h := nt_R_some h
        exact hI v6 v7 h
def bMo_spread_72 (x1 : Int32) (x2 : Int32) (x3 : Int32) (x4 : Int32) (g : nt_T) : Option ((Int32 × nt_T) ⊕ ((nt_T))) :=
  (if (g 0 11) ≤ x4 then
    (some (.inr g))
  else
    (nt_b1 (fMo_knowers x4 g) fun r11 => nt_gd (nt_in x4 8) <| nt_lt (nt_st g 16 (Int32.toNatClampNeg x4) r11) fun g13 => nt_lt (x4 + (1 : Int32)) fun v14 => some (.inl (v14, g13))))
set_option maxRecDepth 100000 in
set_option maxHeartbeats 4000000 in
theorem tbMo_spread_72 {p : Program} {l : Launch} {e : Env} {s : State} {m : MethodId} {args : Array Value} {below : List Frame} {meth : Method} {c : Code} {w : nt_w} {A : Nat → Prop} (hw : nt_isM w) {Q : State → Prop} (X : nt_X cX9_spread 8 RX9 (some .int) w A p s m args meth c) (x1 : Int32) (x2 : Int32) (x3 : Int32)  {Qx : ((nt_T)) → Prop} (hE0 : ∀ (gy : nt_T), Qx gy → nt_G p l e (nt_rm 83) s m args below meth c w A 0 0 Q 8 100 [(0, .ref (nt_a w 0)), (1, .int x1), (2, .int x2), (3, .int x3)] [] gy) : ∀ (n : Nat) (x4 : Int32) (g : nt_T), nt_R (nt_it (fun z => bMo_spread_72 x1 x2 x3 z.1 z.2) n (x4, g)) Qx → nt_G p l e (nt_rm 83) s m args below meth c w A 0 0 Q 8 72 [(0, .ref (nt_a w 0)), (1, .int x1), (2, .int x2), (3, .int x3), (4, .int x4)] [] g := by
  intro n
  induction n with
  | zero =>
    intro x4 g h
    exact nt_R_none h
  | succ n ih =>
    intro x4 g h
    have h : nt_R (bMo_spread_72 x1 x2 x3 x4 g) (nt_Qz (fun z => bMo_spread_72 x1 x2 x3 z.1 z.2) n Qx) := nt_R_it h
    have hI : ∀ (y4 : Int32) (gy : nt_T), nt_Qz (fun z => bMo_spread_72 x1 x2 x3 z.1 z.2) n Qx (.inl (y4, gy)) → nt_G p l e (nt_rm 83) s m args below meth c w A 0 0 Q 8 72 [(0, .ref (nt_a w 0)), (1, .int x1), (2, .int x2), (3, .int x3), (4, .int y4)] [] gy := fun y4 gy q => ih y4 gy q
    have hE0 : ∀ (gy : nt_T), nt_Qz (fun z => bMo_spread_72 x1 x2 x3 z.1 z.2) n Qx (.inr gy) → nt_G p l e (nt_rm 83) s m args below meth c w A 0 0 Q 8 100 [(0, .ref (nt_a w 0)), (1, .int x1), (2, .int x2), (3, .int x3)] [] gy := hE0
    generalize nt_Qz (fun z => bMo_spread_72 x1 x2 x3 z.1 z.2) n Qx = Qz at h hI hE0
    unfold bMo_spread_72 at h
    refine nt_iload X dX9_spread_72 4 rfl ?_
    refine nt_aload_n X dX9_spread_74 rfl 0 rfl ?_
    refine nt_get X 0 inX9 (nt_lM hw (Nat.le_of_ble_eq_true rfl)) (nt_m0 hw) rfl (j := 11) (by decide) wd_633 (v := .int (g 0 11)) rfl dX9_spread_75 ?_
    obtain ⟨ht, hf⟩ := nt_R_if h
    refine nt_icmp_ge X 100 dX9_spread_78 (by decide) (fun q10 => ?_) (fun q10 => ?_)
    · have h := ht q10
      refine nt_sub [0, 1, 2, 3] rfl ?_
      have h := nt_R_some h
      exact hE0 g h
    · have h := hf q10
      refine nt_aload_n X dX9_spread_81 rfl 0 rfl ?_
      refine nt_get X 0 inX9 (nt_lM hw (Nat.le_of_ble_eq_true rfl)) (nt_m0 hw) rfl (j := 39) (by decide) wd_661 (v := .ref (nt_a w 16)) rfl dX9_spread_82 ?_
      refine nt_iload X dX9_spread_85 4 rfl ?_
      refine nt_aload_n X dX9_spread_87 rfl 0 rfl ?_
      refine nt_iload X dX9_spread_88 4 rfl ?_
      obtain ⟨r11, er11, h⟩ := nt_R_b1 h
      refine nt_cVi X (As := [.int x4]) 0 (nt_lM hw (Nat.le_of_ble_eq_true rfl)) (nt_m0 hw) rfl (cMo_knowers hw er11) wd_870 wd_868 wd_869 wd_1102 wd_16 rfl hd_X9_knowers ⟨Nat.le_of_ble_eq_true rfl, Nat.le_of_ble_eq_true rfl⟩ ⟨Nat.le_refl 0, Nat.le_refl 0⟩ (Nat.le_of_ble_eq_true rfl) rfl dX9_spread_90 ?_
      obtain ⟨q12, h⟩ := nt_R_gd h
      refine nt_iast X 16 0 (nt_lM hw (Nat.le_of_ble_eq_true rfl)) (nt_m16 hw) (nt_tM hw) q12 dX9_spread_93 ?_
      obtain ⟨g13, eg13, h⟩ := nt_R_lt h
      refine nt_geq eg13 ?_
      obtain ⟨v14, ev14, h⟩ := nt_R_lt h
      refine nt_iinc X v14 [(4, .int v14), (0, .ref (nt_a w 0)), (1, .int x1), (2, .int x2), (3, .int x3)] dX9_spread_94 4 rfl (by rw [nt_ci_1]; exact ev14) (by decide) rfl ?_
      refine nt_goto X 72 dX9_spread_97 (by decide) ?_
      refine nt_sub [1, 2, 3, 4, 0] rfl ?_
      have h := nt_R_some h
      exact hI v14 g13 h
def bMo_spread_103 (x1 : Int32) (x2 : Int32) (x3 : Int32) (x4 : Int32) (g : nt_T) : Option ((Int32 × nt_T) ⊕ ((nt_T))) :=
  (if (576 : Int32) ≤ x4 then
    (some (.inr g))
  else
    (nt_gd (nt_in x4 576) <| nt_lt (nt_st g 17 (Int32.toNatClampNeg x4) (0 : Int32)) fun g18 => nt_lt (x4 + (1 : Int32)) fun v19 => some (.inl (v19, g18))))
set_option maxRecDepth 100000 in
set_option maxHeartbeats 4000000 in
theorem tbMo_spread_103 {p : Program} {l : Launch} {e : Env} {s : State} {m : MethodId} {args : Array Value} {below : List Frame} {meth : Method} {c : Code} {w : nt_w} {A : Nat → Prop} (hw : nt_isM w) {Q : State → Prop} (X : nt_X cX9_spread 8 RX9 (some .int) w A p s m args meth c) (x1 : Int32) (x2 : Int32) (x3 : Int32)  {Qx : ((nt_T)) → Prop} (hE0 : ∀ (gy : nt_T), Qx gy → nt_G p l e (nt_rm 83) s m args below meth c w A 0 0 Q 8 125 [(0, .ref (nt_a w 0)), (1, .int x1), (2, .int x2), (3, .int x3)] [] gy) : ∀ (n : Nat) (x4 : Int32) (g : nt_T), nt_R (nt_it (fun z => bMo_spread_103 x1 x2 x3 z.1 z.2) n (x4, g)) Qx → nt_G p l e (nt_rm 83) s m args below meth c w A 0 0 Q 8 103 [(0, .ref (nt_a w 0)), (1, .int x1), (2, .int x2), (3, .int x3), (4, .int x4)] [] g := by
  intro n
  induction n with
  | zero =>
    intro x4 g h
    exact nt_R_none h
  | succ n ih =>
    intro x4 g h
    have h : nt_R (bMo_spread_103 x1 x2 x3 x4 g) (nt_Qz (fun z => bMo_spread_103 x1 x2 x3 z.1 z.2) n Qx) := nt_R_it h
    have hI : ∀ (y4 : Int32) (gy : nt_T), nt_Qz (fun z => bMo_spread_103 x1 x2 x3 z.1 z.2) n Qx (.inl (y4, gy)) → nt_G p l e (nt_rm 83) s m args below meth c w A 0 0 Q 8 103 [(0, .ref (nt_a w 0)), (1, .int x1), (2, .int x2), (3, .int x3), (4, .int y4)] [] gy := fun y4 gy q => ih y4 gy q
    have hE0 : ∀ (gy : nt_T), nt_Qz (fun z => bMo_spread_103 x1 x2 x3 z.1 z.2) n Qx (.inr gy) → nt_G p l e (nt_rm 83) s m args below meth c w A 0 0 Q 8 125 [(0, .ref (nt_a w 0)), (1, .int x1), (2, .int x2), (3, .int x3)] [] gy := hE0
    generalize nt_Qz (fun z => bMo_spread_103 x1 x2 x3 z.1 z.2) n Qx = Qz at h hI hE0
    unfold bMo_spread_103 at h
    refine nt_iload X dX9_spread_103 4 rfl ?_
    refine nt_sipush X dX9_spread_105 nt_cs_576 ?_
    obtain ⟨ht, hf⟩ := nt_R_if h
    refine nt_icmp_ge X 125 dX9_spread_108 (by decide) (fun q16 => ?_) (fun q16 => ?_)
    · have h := ht q16
      refine nt_sub [0, 1, 2, 3] rfl ?_
      have h := nt_R_some h
      exact hE0 g h
    · have h := hf q16
      refine nt_aload_n X dX9_spread_111 rfl 0 rfl ?_
      refine nt_get X 0 inX9 (nt_lM hw (Nat.le_of_ble_eq_true rfl)) (nt_m0 hw) rfl (j := 40) (by decide) wd_662 (v := .ref (nt_a w 17)) rfl dX9_spread_112 ?_
      refine nt_iload X dX9_spread_115 4 rfl ?_
      refine nt_iconst X dX9_spread_117 nt_ci_0 ?_
      obtain ⟨q17, h⟩ := nt_R_gd h
      refine nt_iast X 17 0 (nt_lM hw (Nat.le_of_ble_eq_true rfl)) (nt_m17 hw) (nt_tM hw) q17 dX9_spread_118 ?_
      obtain ⟨g18, eg18, h⟩ := nt_R_lt h
      refine nt_geq eg18 ?_
      obtain ⟨v19, ev19, h⟩ := nt_R_lt h
      refine nt_iinc X v19 [(4, .int v19), (0, .ref (nt_a w 0)), (1, .int x1), (2, .int x2), (3, .int x3)] dX9_spread_119 4 rfl (by rw [nt_ci_1]; exact ev19) (by decide) rfl ?_
      refine nt_goto X 103 dX9_spread_122 (by decide) ?_
      refine nt_sub [1, 2, 3, 4, 0] rfl ?_
      have h := nt_R_some h
      exact hI v19 g18 h
def bMo_spread_139 (x1 : Int32) (x2 : Int32) (x3 : Int32) (x4 : Int32) (x5 : Int32) (x6 : Int32) (g : nt_T) : Option ((Int32 × Int32 × Int32 × nt_T) ⊕ ((Int32 × Int32 × nt_T))) :=
  (if x3 ≤ x6 then
    (some (.inr (x4, x5, g)))
  else
    (nt_b2 (fMo_housesWith x6 x1 g) fun r24 g25 => (if r24 ≤ x5 then
    (nt_lt (x6 + (1 : Int32)) fun v27 => some (.inl (x4, x5, v27, g25)))
  else
    (nt_lt (x6 + (1 : Int32)) fun v28 => some (.inl (x6, r24, v28, g25))))))
set_option maxRecDepth 100000 in
set_option maxHeartbeats 4000000 in
theorem tbMo_spread_139 {p : Program} {l : Launch} {e : Env} {s : State} {m : MethodId} {args : Array Value} {below : List Frame} {meth : Method} {c : Code} {w : nt_w} {A : Nat → Prop} (hw : nt_isM w) {Q : State → Prop} (X : nt_X cX9_spread 8 RX9 (some .int) w A p s m args meth c) (x1 : Int32) (x2 : Int32) (x3 : Int32)  {Qx : ((Int32 × Int32 × nt_T)) → Prop} (hE0 : ∀ (y4 : Int32) (y5 : Int32) (gy : nt_T), Qx (y4, y5, gy) → nt_G p l e (nt_rm 83) s m args below meth c w A 0 0 Q 8 175 [(0, .ref (nt_a w 0)), (1, .int x1), (2, .int x2), (3, .int x3), (4, .int y4), (5, .int y5)] [] gy) : ∀ (n : Nat) (x4 : Int32) (x5 : Int32) (x6 : Int32) (g : nt_T), nt_R (nt_it (fun z => bMo_spread_139 x1 x2 x3 z.1 z.2.1 z.2.2.1 z.2.2.2) n (x4, x5, x6, g)) Qx → nt_G p l e (nt_rm 83) s m args below meth c w A 0 0 Q 8 139 [(0, .ref (nt_a w 0)), (1, .int x1), (2, .int x2), (3, .int x3), (4, .int x4), (5, .int x5), (6, .int x6)] [] g := by
  intro n
  induction n with
  | zero =>
    intro x4 x5 x6 g h
    exact nt_R_none h
  | succ n ih =>
    intro x4 x5 x6 g h
    have h : nt_R (bMo_spread_139 x1 x2 x3 x4 x5 x6 g) (nt_Qz (fun z => bMo_spread_139 x1 x2 x3 z.1 z.2.1 z.2.2.1 z.2.2.2) n Qx) := nt_R_it h
    have hI : ∀ (y4 : Int32) (y5 : Int32) (y6 : Int32) (gy : nt_T), nt_Qz (fun z => bMo_spread_139 x1 x2 x3 z.1 z.2.1 z.2.2.1 z.2.2.2) n Qx (.inl (y4, y5, y6, gy)) → nt_G p l e (nt_rm 83) s m args below meth c w A 0 0 Q 8 139 [(0, .ref (nt_a w 0)), (1, .int x1), (2, .int x2), (3, .int x3), (4, .int y4), (5, .int y5), (6, .int y6)] [] gy := fun y4 y5 y6 gy q => ih y4 y5 y6 gy q
    have hE0 : ∀ (y4 : Int32) (y5 : Int32) (gy : nt_T), nt_Qz (fun z => bMo_spread_139 x1 x2 x3 z.1 z.2.1 z.2.2.1 z.2.2.2) n Qx (.inr (y4, y5, gy)) → nt_G p l e (nt_rm 83) s m args below meth c w A 0 0 Q 8 175 [(0, .ref (nt_a w 0)), (1, .int x1), (2, .int x2), (3, .int x3), (4, .int y4), (5, .int y5)] [] gy := hE0
    generalize nt_Qz (fun z => bMo_spread_139 x1 x2 x3 z.1 z.2.1 z.2.2.1 z.2.2.2) n Qx = Qz at h hI hE0
    unfold bMo_spread_139 at h
    refine nt_iload X dX9_spread_139 6 rfl ?_
    refine nt_iload_n X dX9_spread_141 rfl 3 rfl ?_
    obtain ⟨ht, hf⟩ := nt_R_if h
    refine nt_icmp_ge X 175 dX9_spread_142 (by decide) (fun q23 => ?_) (fun q23 => ?_)
    · have h := ht q23
      refine nt_sub [0, 1, 2, 3, 4, 5] rfl ?_
      have h := nt_R_some h
      exact hE0 x4 x5 g h
    · have h := hf q23
      refine nt_aload_n X dX9_spread_145 rfl 0 rfl ?_
      refine nt_iload X dX9_spread_146 6 rfl ?_
      refine nt_iload_n X dX9_spread_148 rfl 1 rfl ?_
      obtain ⟨r24, g25, er24, h⟩ := nt_R_b2 h
      refine nt_cVi X (As := [.int x6, .int x1]) 0 (nt_lM hw (Nat.le_of_ble_eq_true rfl)) (nt_m0 hw) rfl (cMo_housesWith hw er24) wd_929 wd_927 wd_928 wd_1110 wd_16 rfl hd_X9_housesWith ⟨Nat.le_of_ble_eq_true rfl, Nat.le_of_ble_eq_true rfl⟩ ⟨Nat.le_refl 0, Nat.le_refl 0⟩ (Nat.le_of_ble_eq_true rfl) rfl dX9_spread_149 ?_
      refine nt_istore X [(7, .int r24), (0, .ref (nt_a w 0)), (1, .int x1), (2, .int x2), (3, .int x3), (4, .int x4), (5, .int x5), (6, .int x6)] dX9_spread_152 (by decide) rfl ?_
      refine nt_iload X dX9_spread_154 0 rfl ?_
      refine nt_iload X dX9_spread_156 6 rfl ?_
      obtain ⟨ht, hf⟩ := nt_R_if h
      refine nt_icmp_le X 169 dX9_spread_158 (by decide) (fun q26 => ?_) (fun q26 => ?_)
      · have h := ht q26
        obtain ⟨v27, ev27, h⟩ := nt_R_lt h
        refine nt_iinc X v27 [(6, .int v27), (7, .int r24), (0, .ref (nt_a w 0)), (1, .int x1), (2, .int x2), (3, .int x3), (4, .int x4), (5, .int x5)] dX9_spread_169 7 rfl (by rw [nt_ci_1]; exact ev27) (by decide) rfl ?_
        refine nt_goto X 139 dX9_spread_172 (by decide) ?_
        refine nt_sub [2, 3, 4, 5, 6, 7, 0] rfl ?_
        have h := nt_R_some h
        exact hI x4 x5 v27 g25 h
      · have h := hf q26
        refine nt_iload X dX9_spread_161 7 rfl ?_
        refine nt_istore X [(4, .int x6), (7, .int r24), (0, .ref (nt_a w 0)), (1, .int x1), (2, .int x2), (3, .int x3), (5, .int x5), (6, .int x6)] dX9_spread_163 (by decide) rfl ?_
        refine nt_iload X dX9_spread_165 1 rfl ?_
        refine nt_istore X [(5, .int r24), (4, .int x6), (7, .int r24), (0, .ref (nt_a w 0)), (1, .int x1), (2, .int x2), (3, .int x3), (6, .int x6)] dX9_spread_167 (by decide) rfl ?_
        obtain ⟨v28, ev28, h⟩ := nt_R_lt h
        refine nt_iinc X v28 [(6, .int v28), (5, .int r24), (4, .int x6), (7, .int r24), (0, .ref (nt_a w 0)), (1, .int x1), (2, .int x2), (3, .int x3)] dX9_spread_169 7 rfl (by rw [nt_ci_1]; exact ev28) (by decide) rfl ?_
        refine nt_goto X 139 dX9_spread_172 (by decide) ?_
        refine nt_sub [4, 5, 6, 7, 2, 1, 0] rfl ?_
        have h := nt_R_some h
        exact hI x6 r24 v28 g25 h
def jMo_spread_59 (x1 : Int32) (x2 : Int32) (x3 : Int32) (g : nt_T) : Option (Int32 × nt_T) :=
  (if x3 ≤ (4096 : Int32) then
    ((nt_b1 (nt_it (fun z => bMo_spread_72 x1 x2 x3 z.1 z.2) nt_fu ((0 : Int32), g)) fun g15 => (nt_b1 (nt_it (fun z => bMo_spread_103 x1 x2 x3 z.1 z.2) nt_fu ((0 : Int32), g15)) fun g20 => nt_b2 (fMo_housesWith (0 : Int32) x1 g20) fun r21 g22 => (nt_b1 (nt_it (fun z => bMo_spread_139 x1 x2 x3 z.1 z.2.1 z.2.2.1 z.2.2.2) nt_fu ((0 : Int32), r21, (1 : Int32), g22)) fun z34 => match z34 with
  | (v29, v30, g31) => (if x2 = (-1 : Int32) then
    (some (v30, g31))
  else
    (nt_b1 (fMo_digit v29 x1 x2 g31) fun r33 => some (r33, g31)))))))
  else
    (some ((-2 : Int32), g)))
set_option maxRecDepth 100000 in
set_option maxHeartbeats 4000000 in
theorem tjMo_spread_59 {p : Program} {l : Launch} {e : Env} {s : State} {m : MethodId} {args : Array Value} {below : List Frame} {meth : Method} {c : Code} {w : nt_w} {A : Nat → Prop} (hw : nt_isM w) {r : Int32} {g2 : nt_T}  (X : nt_X cX9_spread 8 RX9 (some .int) w A p s m args meth c) (x1 : Int32) (x2 : Int32) (x3 : Int32) (g : nt_T) (h : nt_R (jMo_spread_59 x1 x2 x3 g) (fun z => z = (r, g2))) : nt_G p l e (nt_rm 83) s m args below meth c w A 0 0 (nt_Qi w A below args s r g2) 8 59 [(0, .ref (nt_a w 0)), (1, .int x1), (2, .int x2), (3, .int x3)] [] g := by
  unfold jMo_spread_59 at h
  refine nt_iload_n X dX9_spread_59 rfl 3 rfl ?_
  refine nt_sipush X dX9_spread_60 nt_cs_4096 ?_
  obtain ⟨ht, hf⟩ := nt_R_if h
  refine nt_icmp_le X 69 dX9_spread_63 (by decide) (fun q9 => ?_) (fun q9 => ?_)
  · have h := ht q9
    refine nt_iconst X dX9_spread_69 nt_ci_0 ?_
    refine nt_istore X [(4, .int (0 : Int32)), (0, .ref (nt_a w 0)), (1, .int x1), (2, .int x2), (3, .int x3)] dX9_spread_70 (by decide) rfl ?_
    obtain ⟨z36, hz36, h⟩ := nt_R_b1 h
    refine nt_sub [1, 2, 3, 4, 0] rfl ?_
    refine tbMo_spread_72 hw X x1 x2 x3 (Qx := fun z => z = z36) (fun g15 hq => ?_) nt_fu (0 : Int32) g ⟨_, hz36, rfl⟩
    subst hq
    refine nt_iconst X dX9_spread_100 nt_ci_0 ?_
    refine nt_istore X [(4, .int (0 : Int32)), (0, .ref (nt_a w 0)), (1, .int x1), (2, .int x2), (3, .int x3)] dX9_spread_101 (by decide) rfl ?_
    obtain ⟨z35, hz35, h⟩ := nt_R_b1 h
    refine nt_sub [1, 2, 3, 4, 0] rfl ?_
    refine tbMo_spread_103 hw X x1 x2 x3 (Qx := fun z => z = z35) (fun g20 hq => ?_) nt_fu (0 : Int32) g15 ⟨_, hz35, rfl⟩
    subst hq
    refine nt_iconst X dX9_spread_125 nt_ci_0 ?_
    refine nt_istore X [(4, .int (0 : Int32)), (0, .ref (nt_a w 0)), (1, .int x1), (2, .int x2), (3, .int x3)] dX9_spread_126 (by decide) rfl ?_
    refine nt_aload_n X dX9_spread_128 rfl 1 rfl ?_
    refine nt_iconst X dX9_spread_129 nt_ci_0 ?_
    refine nt_iload_n X dX9_spread_130 rfl 2 rfl ?_
    obtain ⟨r21, g22, er21, h⟩ := nt_R_b2 h
    refine nt_cVi X (As := [.int (0 : Int32), .int x1]) 0 (nt_lM hw (Nat.le_of_ble_eq_true rfl)) (nt_m0 hw) rfl (cMo_housesWith hw er21) wd_929 wd_927 wd_928 wd_1110 wd_16 rfl hd_X9_housesWith ⟨Nat.le_of_ble_eq_true rfl, Nat.le_of_ble_eq_true rfl⟩ ⟨Nat.le_refl 0, Nat.le_refl 0⟩ (Nat.le_of_ble_eq_true rfl) rfl dX9_spread_131 ?_
    refine nt_istore X [(5, .int r21), (4, .int (0 : Int32)), (0, .ref (nt_a w 0)), (1, .int x1), (2, .int x2), (3, .int x3)] dX9_spread_134 (by decide) rfl ?_
    refine nt_iconst X dX9_spread_136 nt_ci_1 ?_
    refine nt_istore X [(6, .int (1 : Int32)), (5, .int r21), (4, .int (0 : Int32)), (0, .ref (nt_a w 0)), (1, .int x1), (2, .int x2), (3, .int x3)] dX9_spread_137 (by decide) rfl ?_
    obtain ⟨z34, hz34, h⟩ := nt_R_b1 h
    refine nt_sub [3, 4, 5, 6, 2, 1, 0] rfl ?_
    refine tbMo_spread_139 hw X x1 x2 x3 (Qx := fun z => z = z34) (fun v29 v30 g31 hq => ?_) nt_fu (0 : Int32) r21 (1 : Int32) g22 ⟨_, hz34, rfl⟩
    subst hq
    refine nt_iload_n X dX9_spread_175 rfl 2 rfl ?_
    refine nt_iconst X dX9_spread_176 nt_ci_m1 ?_
    obtain ⟨ht, hf⟩ := nt_R_if h
    refine nt_icmp_ne X 185 dX9_spread_177 (by decide) (fun q32 => ?_) (fun q32 => ?_)
    · have h := hf q32
      refine nt_iload X dX9_spread_185 4 rfl ?_
      refine nt_iload_n X dX9_spread_187 rfl 1 rfl ?_
      refine nt_iload_n X dX9_spread_188 rfl 2 rfl ?_
      obtain ⟨r33, er33, h⟩ := nt_R_b1 h
      refine nt_cSi X (As := [.int v29, .int x1, .int x2]) (cMo_digit hw er33) wd_932 wd_930 wd_931 wd_16 hd_X9_digit ⟨Nat.le_of_ble_eq_true rfl, Nat.le_of_ble_eq_true rfl⟩ ⟨Nat.le_refl 0, Nat.le_refl 0⟩ (Nat.le_of_ble_eq_true rfl) rfl dX9_spread_189 ?_
      have h := nt_R_some h
      exact nt_iret X dX9_spread_192 h
    · have h := ht q32
      refine nt_iload X dX9_spread_180 5 rfl ?_
      refine nt_goto X 192 dX9_spread_182 (by decide) ?_
      have h := nt_R_some h
      exact nt_iret X dX9_spread_192 h
  · have h := hf q9
    refine nt_bipush X dX9_spread_66 nt_cb_m2 ?_
    have h := nt_R_some h
    exact nt_iret X dX9_spread_68 h
def jMo_spread_28 (x1 : Int32) (x2 : Int32) (g : nt_T) : Option (Int32 × nt_T) :=
  (nt_b1 (nt_it (fun z => bMo_spread_33 x1 x2 g z.1 z.2) nt_fu ((1 : Int32), (0 : Int32))) fun v8 => jMo_spread_59 x1 x2 v8 g)
set_option maxRecDepth 100000 in
set_option maxHeartbeats 4000000 in
theorem tjMo_spread_28 {p : Program} {l : Launch} {e : Env} {s : State} {m : MethodId} {args : Array Value} {below : List Frame} {meth : Method} {c : Code} {w : nt_w} {A : Nat → Prop} (hw : nt_isM w) {r : Int32} {g2 : nt_T}  (X : nt_X cX9_spread 8 RX9 (some .int) w A p s m args meth c) (x1 : Int32) (x2 : Int32) (g : nt_T) (h : nt_R (jMo_spread_28 x1 x2 g) (fun z => z = (r, g2))) : nt_G p l e (nt_rm 83) s m args below meth c w A 0 0 (nt_Qi w A below args s r g2) 8 28 [(0, .ref (nt_a w 0)), (1, .int x1), (2, .int x2)] [] g := by
  unfold jMo_spread_28 at h
  refine nt_iconst X dX9_spread_28 nt_ci_1 ?_
  refine nt_istore_n X [(3, .int (1 : Int32)), (0, .ref (nt_a w 0)), (1, .int x1), (2, .int x2)] dX9_spread_29 rfl (by decide) rfl ?_
  refine nt_iconst X dX9_spread_30 nt_ci_0 ?_
  refine nt_istore X [(4, .int (0 : Int32)), (3, .int (1 : Int32)), (0, .ref (nt_a w 0)), (1, .int x1), (2, .int x2)] dX9_spread_31 (by decide) rfl ?_
  obtain ⟨z37, hz37, h⟩ := nt_R_b1 h
  refine nt_sub [2, 3, 4, 1, 0] rfl ?_
  refine tbMo_spread_33 hw X x1 x2 g (Qx := fun z => z = z37) (fun v8 hq => ?_) nt_fu (1 : Int32) (0 : Int32) ⟨_, hz37, rfl⟩
  subst hq
  exact tjMo_spread_59 hw X x1 x2 v8 g h
def fMo_spread (x1 : Int32) (x2 : Int32) (g : nt_T) : Option (Int32 × nt_T) :=
  nt_b1 (fMo_in (Int32.toInt64 x1) (1 : Int64) (4 : Int64) g) fun r1 => (if r1 = 0 then
    (some ((-2 : Int32), g))
  else
    ((if x2 = (-1 : Int32) then
    (jMo_spread_28 x1 x2 g)
  else
    (nt_b1 (fMo_isPerson x2 g) fun r38 => (if r38 = 0 then
    (some ((-2 : Int32), g))
  else
    (jMo_spread_28 x1 x2 g))))))
set_option maxRecDepth 100000 in
set_option maxHeartbeats 4000000 in
theorem cMo_spread {l : Launch} {w : nt_w} (hw : nt_isM w) {x1 : Int32} {x2 : Int32} {g : nt_T} {r : Int32} {g2 : nt_T} (hf : fMo_spread x1 x2 g = some (r, g2)) : nt_Mi l w yX9_spread cX9_spread 8 (some .int) 83 [.ref (nt_a w 0), .int x1, .int x2] g r g2 := by
  refine nt_Mi_of (by decide) (Nat.le_of_ble_eq_true rfl) (fun p e s m args below meth c A X => ?_)
  have X : nt_X cX9_spread 8 RX9 (some .int) w A p s m args meth c := X
  have h : nt_R (fMo_spread x1 x2 g) (fun z => z = (r, g2)) := ⟨_, hf, rfl⟩
  unfold fMo_spread at h
  show nt_G p l e (nt_rm 83) s m args below meth c w A 0 0 (nt_Qi w A below args s r g2) 8 0 [(0, .ref (nt_a w 0)), (1, .int x1), (2, .int x2)] [] g
  refine nt_iload_n X dX9_spread_0 rfl 1 rfl ?_
  refine nt_i2l X dX9_spread_1 rfl ?_
  refine nt_lconst X dX9_spread_2 nt_cl_1 ?_
  refine nt_ldc2 X wd_778 dX9_spread_3 ?_
  obtain ⟨r1, er1, h⟩ := nt_R_b1 h
  refine nt_cSi X (As := [.long (Int32.toInt64 x1), .long (1 : Int64), .long (4 : Int64)]) (cMo_in hw er1) wd_732 wd_730 wd_731 wd_16 hd_X9_in ⟨Nat.le_of_ble_eq_true rfl, Nat.le_of_ble_eq_true rfl⟩ ⟨Nat.le_refl 0, Nat.le_refl 0⟩ (Nat.le_of_ble_eq_true rfl) rfl dX9_spread_6 ?_
  obtain ⟨ht, hf⟩ := nt_R_if h
  refine nt_if_eq X 25 dX9_spread_9 (by decide) (fun q2 => ?_) (fun q2 => ?_)
  · have h := ht q2
    refine nt_bipush X dX9_spread_25 nt_cb_m2 ?_
    have h := nt_R_some h
    exact nt_iret X dX9_spread_27 h
  · have h := hf q2
    refine nt_iload_n X dX9_spread_12 rfl 2 rfl ?_
    refine nt_iconst X dX9_spread_13 nt_ci_m1 ?_
    obtain ⟨ht, hf⟩ := nt_R_if h
    refine nt_icmp_eq X 28 dX9_spread_14 (by decide) (fun q3 => ?_) (fun q3 => ?_)
    · have h := ht q3
      exact tjMo_spread_28 hw X x1 x2 g h
    · have h := hf q3
      refine nt_aload_n X dX9_spread_17 rfl 0 rfl ?_
      refine nt_iload_n X dX9_spread_18 rfl 2 rfl ?_
      obtain ⟨r38, er38, h⟩ := nt_R_b1 h
      refine nt_cVi X (As := [.int x2]) 0 (nt_lM hw (Nat.le_of_ble_eq_true rfl)) (nt_m0 hw) rfl (cMo_isPerson hw er38) wd_757 wd_755 wd_756 wd_1078 wd_16 rfl hd_X9_isPerson ⟨Nat.le_of_ble_eq_true rfl, Nat.le_of_ble_eq_true rfl⟩ ⟨Nat.le_refl 0, Nat.le_refl 0⟩ (Nat.le_of_ble_eq_true rfl) rfl dX9_spread_19 ?_
      obtain ⟨ht, hf⟩ := nt_R_if h
      refine nt_if_ne X 28 dX9_spread_22 (by decide) (fun q39 => ?_) (fun q39 => ?_)
      · have h := hf q39
        exact tjMo_spread_28 hw X x1 x2 g h
      · have h := ht q39
        refine nt_bipush X dX9_spread_25 nt_cb_m2 ?_
        have h := nt_R_some h
        exact nt_iret X dX9_spread_27 h
def jMo_keepAway_74 (x1 : Int32) (x2 : Int32) (x3 : Int32) (x4 : Int32) (x5 : Int32) (g : nt_T) : Option ((Int32 × Int32 × Int32 × nt_T) ⊕ ((Int32 × nt_T))) :=
  nt_lt (x4 + (1 : Int32)) fun v15 => some (.inl (x4, x5, v15, g))
set_option maxRecDepth 100000 in
set_option maxHeartbeats 4000000 in
theorem tjMo_keepAway_74 {p : Program} {l : Launch} {e : Env} {s : State} {m : MethodId} {args : Array Value} {below : List Frame} {meth : Method} {c : Code} {w : nt_w} {A : Nat → Prop} (hw : nt_isM w) {Q : State → Prop} (X : nt_X cX9_keepAway 6 RX9 (some .int) w A p s m args meth c) (x1 : Int32) (x2 : Int32) (x3 : Int32) (x4 : Int32) (x5 : Int32) (g : nt_T) {Qz : (Int32 × Int32 × Int32 × nt_T) ⊕ ((Int32 × nt_T)) → Prop} (hI : ∀ (y2 : Int32) (y3 : Int32) (y4 : Int32) (gy : nt_T), Qz (.inl (y2, y3, y4, gy)) → nt_G p l e (nt_rm 83) s m args below meth c w A 0 0 Q 6 17 [(0, .ref (nt_a w 0)), (1, .int x1), (2, .int y2), (3, .int y3), (4, .int y4)] [] gy) (hE0 : ∀ (y2 : Int32) (gy : nt_T), Qz (.inr (y2, gy)) → nt_G p l e (nt_rm 83) s m args below meth c w A 0 0 Q 6 86 [(0, .ref (nt_a w 0)), (1, .int x1), (2, .int y2)] [] gy) (h : nt_R (jMo_keepAway_74 x1 x2 x3 x4 x5 g) Qz) : nt_G p l e (nt_rm 83) s m args below meth c w A 0 0 Q 6 74 [(0, .ref (nt_a w 0)), (1, .int x1), (2, .int x2), (3, .int x3), (4, .int x4), (5, .int x5)] [] g := by
  unfold jMo_keepAway_74 at h
  refine nt_iload X dX9_keepAway_74 4 rfl ?_
  refine nt_istore_n X [(2, .int x4), (0, .ref (nt_a w 0)), (1, .int x1), (3, .int x3), (4, .int x4), (5, .int x5)] dX9_keepAway_76 rfl (by decide) rfl ?_
  refine nt_iload X dX9_keepAway_77 5 rfl ?_
  refine nt_istore_n X [(3, .int x5), (2, .int x4), (0, .ref (nt_a w 0)), (1, .int x1), (4, .int x4), (5, .int x5)] dX9_keepAway_79 rfl (by decide) rfl ?_
  obtain ⟨v15, ev15, h⟩ := nt_R_lt h
  refine nt_iinc X v15 [(4, .int v15), (3, .int x5), (2, .int x4), (0, .ref (nt_a w 0)), (1, .int x1), (5, .int x5)] dX9_keepAway_80 4 rfl (by rw [nt_ci_1]; exact ev15) (by decide) rfl ?_
  refine nt_goto X 17 dX9_keepAway_83 (by decide) ?_
  refine nt_sub [3, 4, 2, 1, 0] rfl ?_
  have h := nt_R_some h
  exact hI x4 x5 v15 g h
def bMo_keepAway_17 (x1 : Int32) (x2 : Int32) (x3 : Int32) (x4 : Int32) (g : nt_T) : Option ((Int32 × Int32 × Int32 × nt_T) ⊕ ((Int32 × nt_T))) :=
  (if (g 0 17) ≤ x4 then
    (some (.inr (x2, g)))
  else
    (nt_gd (nt_in x4 9) <| (if (g 11 (Int32.toNatClampNeg x4)) = x1 then
    (nt_gd (nt_in x4 9) <| nt_lt (nt_st g 11 (Int32.toNatClampNeg x4) (-1 : Int32)) fun g8 => nt_b2 (fMo_allMay x1 g8) fun r9 g10 => nt_b1 (fMo_bitsOf r9 g10) fun r11 => nt_gd (nt_in x4 9) <| nt_lt (nt_st g10 11 (Int32.toNatClampNeg x4) x1) fun g13 => (if x2 = (-1 : Int32) then
    (jMo_keepAway_74 x1 x2 x3 x4 r11 g13)
  else
    ((if r11 ≤ x3 then
    (nt_lt (x4 + (1 : Int32)) fun v17 => some (.inl (x2, x3, v17, g13)))
  else
    (jMo_keepAway_74 x1 x2 x3 x4 r11 g13)))))
  else
    (nt_lt (x4 + (1 : Int32)) fun v6 => some (.inl (x2, x3, v6, g))))))
set_option maxRecDepth 100000 in
set_option maxHeartbeats 4000000 in
theorem tbMo_keepAway_17 {p : Program} {l : Launch} {e : Env} {s : State} {m : MethodId} {args : Array Value} {below : List Frame} {meth : Method} {c : Code} {w : nt_w} {A : Nat → Prop} (hw : nt_isM w) {Q : State → Prop} (X : nt_X cX9_keepAway 6 RX9 (some .int) w A p s m args meth c) (x1 : Int32)  {Qx : ((Int32 × nt_T)) → Prop} (hE0 : ∀ (y2 : Int32) (gy : nt_T), Qx (y2, gy) → nt_G p l e (nt_rm 83) s m args below meth c w A 0 0 Q 6 86 [(0, .ref (nt_a w 0)), (1, .int x1), (2, .int y2)] [] gy) : ∀ (n : Nat) (x2 : Int32) (x3 : Int32) (x4 : Int32) (g : nt_T), nt_R (nt_it (fun z => bMo_keepAway_17 x1 z.1 z.2.1 z.2.2.1 z.2.2.2) n (x2, x3, x4, g)) Qx → nt_G p l e (nt_rm 83) s m args below meth c w A 0 0 Q 6 17 [(0, .ref (nt_a w 0)), (1, .int x1), (2, .int x2), (3, .int x3), (4, .int x4)] [] g := by
  intro n
  induction n with
  | zero =>
    intro x2 x3 x4 g h
    exact nt_R_none h
  | succ n ih =>
    intro x2 x3 x4 g h
    have h : nt_R (bMo_keepAway_17 x1 x2 x3 x4 g) (nt_Qz (fun z => bMo_keepAway_17 x1 z.1 z.2.1 z.2.2.1 z.2.2.2) n Qx) := nt_R_it h
    have hI : ∀ (y2 : Int32) (y3 : Int32) (y4 : Int32) (gy : nt_T), nt_Qz (fun z => bMo_keepAway_17 x1 z.1 z.2.1 z.2.2.1 z.2.2.2) n Qx (.inl (y2, y3, y4, gy)) → nt_G p l e (nt_rm 83) s m args below meth c w A 0 0 Q 6 17 [(0, .ref (nt_a w 0)), (1, .int x1), (2, .int y2), (3, .int y3), (4, .int y4)] [] gy := fun y2 y3 y4 gy q => ih y2 y3 y4 gy q
    have hE0 : ∀ (y2 : Int32) (gy : nt_T), nt_Qz (fun z => bMo_keepAway_17 x1 z.1 z.2.1 z.2.2.1 z.2.2.2) n Qx (.inr (y2, gy)) → nt_G p l e (nt_rm 83) s m args below meth c w A 0 0 Q 6 86 [(0, .ref (nt_a w 0)), (1, .int x1), (2, .int y2)] [] gy := hE0
    generalize nt_Qz (fun z => bMo_keepAway_17 x1 z.1 z.2.1 z.2.2.1 z.2.2.2) n Qx = Qz at h hI hE0
    unfold bMo_keepAway_17 at h
    refine nt_iload X dX9_keepAway_17 4 rfl ?_
    refine nt_aload_n X dX9_keepAway_19 rfl 0 rfl ?_
    refine nt_get X 0 inX9 (nt_lM hw (Nat.le_of_ble_eq_true rfl)) (nt_m0 hw) rfl (j := 17) (by decide) wd_639 (v := .int (g 0 17)) rfl dX9_keepAway_20 ?_
    obtain ⟨ht, hf⟩ := nt_R_if h
    refine nt_icmp_ge X 86 dX9_keepAway_23 (by decide) (fun q3 => ?_) (fun q3 => ?_)
    · have h := ht q3
      refine nt_sub [0, 1, 2] rfl ?_
      have h := nt_R_some h
      exact hE0 x2 g h
    · have h := hf q3
      refine nt_aload_n X dX9_keepAway_26 rfl 0 rfl ?_
      refine nt_get X 0 inX9 (nt_lM hw (Nat.le_of_ble_eq_true rfl)) (nt_m0 hw) rfl (j := 15) (by decide) wd_637 (v := .ref (nt_a w 11)) rfl dX9_keepAway_27 ?_
      refine nt_iload X dX9_keepAway_30 4 rfl ?_
      obtain ⟨q4, h⟩ := nt_R_gd h
      refine nt_iald X 11 0 (nt_lM hw (Nat.le_of_ble_eq_true rfl)) (nt_m11 hw) (nt_tM hw) q4 dX9_keepAway_32 ?_
      refine nt_iload_n X dX9_keepAway_33 rfl 1 rfl ?_
      obtain ⟨ht, hf⟩ := nt_R_if h
      refine nt_icmp_ne X 80 dX9_keepAway_34 (by decide) (fun q5 => ?_) (fun q5 => ?_)
      · have h := hf q5
        obtain ⟨v6, ev6, h⟩ := nt_R_lt h
        refine nt_iinc X v6 [(4, .int v6), (0, .ref (nt_a w 0)), (1, .int x1), (2, .int x2), (3, .int x3)] dX9_keepAway_80 4 rfl (by rw [nt_ci_1]; exact ev6) (by decide) rfl ?_
        refine nt_goto X 17 dX9_keepAway_83 (by decide) ?_
        refine nt_sub [1, 2, 3, 4, 0] rfl ?_
        have h := nt_R_some h
        exact hI x2 x3 v6 g h
      · have h := ht q5
        refine nt_aload_n X dX9_keepAway_37 rfl 0 rfl ?_
        refine nt_get X 0 inX9 (nt_lM hw (Nat.le_of_ble_eq_true rfl)) (nt_m0 hw) rfl (j := 15) (by decide) wd_637 (v := .ref (nt_a w 11)) rfl dX9_keepAway_38 ?_
        refine nt_iload X dX9_keepAway_41 4 rfl ?_
        refine nt_iconst X dX9_keepAway_43 nt_ci_m1 ?_
        obtain ⟨q7, h⟩ := nt_R_gd h
        refine nt_iast X 11 0 (nt_lM hw (Nat.le_of_ble_eq_true rfl)) (nt_m11 hw) (nt_tM hw) q7 dX9_keepAway_44 ?_
        obtain ⟨g8, eg8, h⟩ := nt_R_lt h
        refine nt_geq eg8 ?_
        refine nt_aload_n X dX9_keepAway_45 rfl 0 rfl ?_
        refine nt_iload_n X dX9_keepAway_46 rfl 1 rfl ?_
        obtain ⟨r9, g10, er9, h⟩ := nt_R_b2 h
        refine nt_cVi X (As := [.int x1]) 0 (nt_lM hw (Nat.le_of_ble_eq_true rfl)) (nt_m0 hw) rfl (cMo_allMay hw er9) wd_858 wd_856 wd_857 wd_1098 wd_16 rfl hd_X9_allMay ⟨Nat.le_of_ble_eq_true rfl, Nat.le_of_ble_eq_true rfl⟩ ⟨Nat.le_refl 0, Nat.le_refl 0⟩ (Nat.le_of_ble_eq_true rfl) rfl dX9_keepAway_47 ?_
        obtain ⟨r11, er11, h⟩ := nt_R_b1 h
        refine nt_cSi X (As := [.int r9]) (cMo_bitsOf hw er11) wd_873 wd_871 wd_872 wd_16 hd_X9_bitsOf ⟨Nat.le_of_ble_eq_true rfl, Nat.le_of_ble_eq_true rfl⟩ ⟨Nat.le_refl 0, Nat.le_refl 0⟩ (Nat.le_of_ble_eq_true rfl) rfl dX9_keepAway_50 ?_
        refine nt_istore X [(5, .int r11), (0, .ref (nt_a w 0)), (1, .int x1), (2, .int x2), (3, .int x3), (4, .int x4)] dX9_keepAway_53 (by decide) rfl ?_
        refine nt_aload_n X dX9_keepAway_55 rfl 1 rfl ?_
        refine nt_get X 0 inX9 (nt_lM hw (Nat.le_of_ble_eq_true rfl)) (nt_m0 hw) rfl (j := 15) (by decide) wd_637 (v := .ref (nt_a w 11)) rfl dX9_keepAway_56 ?_
        refine nt_iload X dX9_keepAway_59 5 rfl ?_
        refine nt_iload_n X dX9_keepAway_61 rfl 2 rfl ?_
        obtain ⟨q12, h⟩ := nt_R_gd h
        refine nt_iast X 11 0 (nt_lM hw (Nat.le_of_ble_eq_true rfl)) (nt_m11 hw) (nt_tM hw) q12 dX9_keepAway_62 ?_
        obtain ⟨g13, eg13, h⟩ := nt_R_lt h
        refine nt_geq eg13 ?_
        refine nt_iload_n X dX9_keepAway_63 rfl 3 rfl ?_
        refine nt_iconst X dX9_keepAway_64 nt_ci_m1 ?_
        obtain ⟨ht, hf⟩ := nt_R_if h
        refine nt_icmp_eq X 74 dX9_keepAway_65 (by decide) (fun q14 => ?_) (fun q14 => ?_)
        · have h := ht q14
          refine nt_sub [1, 2, 3, 4, 5, 0] rfl ?_
          exact tjMo_keepAway_74 hw X x1 x2 x3 x4 r11 g13 hI hE0 h
        · have h := hf q14
          refine nt_iload X dX9_keepAway_68 0 rfl ?_
          refine nt_iload_n X dX9_keepAway_70 rfl 4 rfl ?_
          obtain ⟨ht, hf⟩ := nt_R_if h
          refine nt_icmp_le X 80 dX9_keepAway_71 (by decide) (fun q16 => ?_) (fun q16 => ?_)
          · have h := ht q16
            obtain ⟨v17, ev17, h⟩ := nt_R_lt h
            refine nt_iinc X v17 [(4, .int v17), (5, .int r11), (0, .ref (nt_a w 0)), (1, .int x1), (2, .int x2), (3, .int x3)] dX9_keepAway_80 5 rfl (by rw [nt_ci_1]; exact ev17) (by decide) rfl ?_
            refine nt_goto X 17 dX9_keepAway_83 (by decide) ?_
            refine nt_sub [2, 3, 4, 5, 0] rfl ?_
            have h := nt_R_some h
            exact hI x2 x3 v17 g13 h
          · have h := hf q16
            refine nt_sub [1, 2, 3, 4, 5, 0] rfl ?_
            exact tjMo_keepAway_74 hw X x1 x2 x3 x4 r11 g13 hI hE0 h
def fMo_keepAway (x1 : Int32) (g : nt_T) : Option (Int32 × nt_T) :=
  nt_b1 (fMo_isHouse x1 g) fun r1 => (if r1 = 0 then
    (some ((-2 : Int32), g))
  else
    ((nt_b1 (nt_it (fun z => bMo_keepAway_17 x1 z.1 z.2.1 z.2.2.1 z.2.2.2) nt_fu ((-1 : Int32), (0 : Int32), (0 : Int32), g)) fun z20 => match z20 with
  | (v18, g19) => some (v18, g19))))
set_option maxRecDepth 100000 in
set_option maxHeartbeats 4000000 in
theorem cMo_keepAway {l : Launch} {w : nt_w} (hw : nt_isM w) {x1 : Int32} {g : nt_T} {r : Int32} {g2 : nt_T} (hf : fMo_keepAway x1 g = some (r, g2)) : nt_Mi l w yX9_keepAway cX9_keepAway 6 (some .int) 83 [.ref (nt_a w 0), .int x1] g r g2 := by
  refine nt_Mi_of (by decide) (Nat.le_of_ble_eq_true rfl) (fun p e s m args below meth c A X => ?_)
  have X : nt_X cX9_keepAway 6 RX9 (some .int) w A p s m args meth c := X
  have h : nt_R (fMo_keepAway x1 g) (fun z => z = (r, g2)) := ⟨_, hf, rfl⟩
  unfold fMo_keepAway at h
  show nt_G p l e (nt_rm 83) s m args below meth c w A 0 0 (nt_Qi w A below args s r g2) 6 0 [(0, .ref (nt_a w 0)), (1, .int x1)] [] g
  refine nt_iload_n X dX9_keepAway_0 rfl 1 rfl ?_
  obtain ⟨r1, er1, h⟩ := nt_R_b1 h
  refine nt_cSi X (As := [.int x1]) (cMo_isHouse hw er1) wd_855 wd_853 wd_854 wd_16 hd_X9_isHouse ⟨Nat.le_of_ble_eq_true rfl, Nat.le_of_ble_eq_true rfl⟩ ⟨Nat.le_refl 0, Nat.le_refl 0⟩ (Nat.le_of_ble_eq_true rfl) rfl dX9_keepAway_1 ?_
  obtain ⟨ht, hf⟩ := nt_R_if h
  refine nt_if_ne X 10 dX9_keepAway_4 (by decide) (fun q2 => ?_) (fun q2 => ?_)
  · have h := hf q2
    refine nt_iconst X dX9_keepAway_10 nt_ci_m1 ?_
    refine nt_istore_n X [(2, .int (-1 : Int32)), (0, .ref (nt_a w 0)), (1, .int x1)] dX9_keepAway_11 rfl (by decide) rfl ?_
    refine nt_iconst X dX9_keepAway_12 nt_ci_0 ?_
    refine nt_istore_n X [(3, .int (0 : Int32)), (2, .int (-1 : Int32)), (0, .ref (nt_a w 0)), (1, .int x1)] dX9_keepAway_13 rfl (by decide) rfl ?_
    refine nt_iconst X dX9_keepAway_14 nt_ci_0 ?_
    refine nt_istore X [(4, .int (0 : Int32)), (3, .int (0 : Int32)), (2, .int (-1 : Int32)), (0, .ref (nt_a w 0)), (1, .int x1)] dX9_keepAway_15 (by decide) rfl ?_
    obtain ⟨z20, hz20, h⟩ := nt_R_b1 h
    refine nt_sub [3, 4, 2, 1, 0] rfl ?_
    refine tbMo_keepAway_17 hw X x1 (Qx := fun z => z = z20) (fun v18 g19 hq => ?_) nt_fu (-1 : Int32) (0 : Int32) (0 : Int32) g ⟨_, hz20, rfl⟩
    subst hq
    refine nt_iload_n X dX9_keepAway_86 rfl 2 rfl ?_
    have h := nt_R_some h
    exact nt_iret X dX9_keepAway_87 h
  · have h := ht q2
    refine nt_bipush X dX9_keepAway_7 nt_cb_m2 ?_
    have h := nt_R_some h
    exact nt_iret X dX9_keepAway_9 h
def bMo_send_65 (x1 : Int32) (x2 : Int32) (x3 : Int32) (x4 : Int32) (x5 : Int32) (x6 : Int32) (x7 : Int32) (x8 : Int32) (x9 : Int32) (g : nt_T) : Option ((Int32 × Int32 × nt_T) ⊕ ((Int32 × nt_T))) :=
  (if (g 0 11) ≤ x9 then
    (some (.inr (x8, g)))
  else
    (nt_b2 (fMo_mayTell x1 x9 x7 g) fun r12 g13 => (if r12 = 0 then
    (nt_lt (x8 + (0 : Int32)) fun v15 => nt_lt (x9 + (1 : Int32)) fun v16 => some (.inl (v15, v16, g13)))
  else
    (nt_lt (x8 + (1 : Int32)) fun v17 => nt_lt (x9 + (1 : Int32)) fun v18 => some (.inl (v17, v18, g13))))))
set_option maxRecDepth 100000 in
set_option maxHeartbeats 4000000 in
theorem tbMo_send_65 {p : Program} {l : Launch} {e : Env} {s : State} {m : MethodId} {args : Array Value} {below : List Frame} {meth : Method} {c : Code} {w : nt_w} {A : Nat → Prop} (hw : nt_isM w) {Q : State → Prop} (X : nt_X cX9_send 10 RX9 (some .int) w A p s m args meth c) (x1 : Int32) (x2 : Int32) (x3 : Int32) (x4 : Int32) (x5 : Int32) (x6 : Int32) (x7 : Int32)  {Qx : ((Int32 × nt_T)) → Prop} (hE0 : ∀ (y8 : Int32) (gy : nt_T), Qx (y8, gy) → nt_G p l e (nt_rm 79) s m args below meth c w A 0 0 Q 10 102 [(0, .ref (nt_a w 0)), (1, .int x1), (2, .int x2), (3, .int x3), (4, .int x4), (5, .int x5), (6, .int x6), (7, .int x7), (8, .int y8)] [] gy) : ∀ (n : Nat) (x8 : Int32) (x9 : Int32) (g : nt_T), nt_R (nt_it (fun z => bMo_send_65 x1 x2 x3 x4 x5 x6 x7 z.1 z.2.1 z.2.2) n (x8, x9, g)) Qx → nt_G p l e (nt_rm 79) s m args below meth c w A 0 0 Q 10 65 [(0, .ref (nt_a w 0)), (1, .int x1), (2, .int x2), (3, .int x3), (4, .int x4), (5, .int x5), (6, .int x6), (7, .int x7), (8, .int x8), (9, .int x9)] [] g := by
  intro n
  induction n with
  | zero =>
    intro x8 x9 g h
    exact nt_R_none h
  | succ n ih =>
    intro x8 x9 g h
    have h : nt_R (bMo_send_65 x1 x2 x3 x4 x5 x6 x7 x8 x9 g) (nt_Qz (fun z => bMo_send_65 x1 x2 x3 x4 x5 x6 x7 z.1 z.2.1 z.2.2) n Qx) := nt_R_it h
    have hI : ∀ (y8 : Int32) (y9 : Int32) (gy : nt_T), nt_Qz (fun z => bMo_send_65 x1 x2 x3 x4 x5 x6 x7 z.1 z.2.1 z.2.2) n Qx (.inl (y8, y9, gy)) → nt_G p l e (nt_rm 79) s m args below meth c w A 0 0 Q 10 65 [(0, .ref (nt_a w 0)), (1, .int x1), (2, .int x2), (3, .int x3), (4, .int x4), (5, .int x5), (6, .int x6), (7, .int x7), (8, .int y8), (9, .int y9)] [] gy := fun y8 y9 gy q => ih y8 y9 gy q
    have hE0 : ∀ (y8 : Int32) (gy : nt_T), nt_Qz (fun z => bMo_send_65 x1 x2 x3 x4 x5 x6 x7 z.1 z.2.1 z.2.2) n Qx (.inr (y8, gy)) → nt_G p l e (nt_rm 79) s m args below meth c w A 0 0 Q 10 102 [(0, .ref (nt_a w 0)), (1, .int x1), (2, .int x2), (3, .int x3), (4, .int x4), (5, .int x5), (6, .int x6), (7, .int x7), (8, .int y8)] [] gy := hE0
    generalize nt_Qz (fun z => bMo_send_65 x1 x2 x3 x4 x5 x6 x7 z.1 z.2.1 z.2.2) n Qx = Qz at h hI hE0
    unfold bMo_send_65 at h
    refine nt_iload X dX9_send_65 9 rfl ?_
    refine nt_aload_n X dX9_send_67 rfl 0 rfl ?_
    refine nt_get X 0 inX9 (nt_lM hw (Nat.le_of_ble_eq_true rfl)) (nt_m0 hw) rfl (j := 11) (by decide) wd_633 (v := .int (g 0 11)) rfl dX9_send_68 ?_
    obtain ⟨ht, hf⟩ := nt_R_if h
    refine nt_icmp_ge X 102 dX9_send_71 (by decide) (fun q11 => ?_) (fun q11 => ?_)
    · have h := ht q11
      refine nt_sub [0, 1, 2, 3, 4, 5, 6, 7, 8] rfl ?_
      have h := nt_R_some h
      exact hE0 x8 g h
    · have h := hf q11
      refine nt_iload X dX9_send_74 8 rfl ?_
      refine nt_aload_n X dX9_send_76 rfl 0 rfl ?_
      refine nt_iload_n X dX9_send_77 rfl 1 rfl ?_
      refine nt_iload X dX9_send_78 9 rfl ?_
      refine nt_iload X dX9_send_80 7 rfl ?_
      obtain ⟨r12, g13, er12, h⟩ := nt_R_b2 h
      refine nt_cVi X (As := [.int x1, .int x9, .int x7]) 0 (nt_lM hw (Nat.le_of_ble_eq_true rfl)) (nt_m0 hw) rfl (cMo_mayTell hw er12) wd_867 wd_865 wd_866 wd_1101 wd_16 rfl hd_X9_mayTell ⟨Nat.le_of_ble_eq_true rfl, Nat.le_of_ble_eq_true rfl⟩ ⟨Nat.le_refl 0, Nat.le_refl 0⟩ (Nat.le_of_ble_eq_true rfl) rfl dX9_send_82 ?_
      obtain ⟨ht, hf⟩ := nt_R_if h
      refine nt_if_eq X 92 dX9_send_85 (by decide) (fun q14 => ?_) (fun q14 => ?_)
      · have h := ht q14
        refine nt_iconst X dX9_send_92 nt_ci_0 ?_
        refine nt_iadd X dX9_send_93 ?_
        obtain ⟨v15, ev15, h⟩ := nt_R_lt h
        refine nt_topi ev15 ?_
        refine nt_istore X [(8, .int v15), (0, .ref (nt_a w 0)), (1, .int x1), (2, .int x2), (3, .int x3), (4, .int x4), (5, .int x5), (6, .int x6), (7, .int x7), (9, .int x9)] dX9_send_94 (by decide) rfl ?_
        obtain ⟨v16, ev16, h⟩ := nt_R_lt h
        refine nt_iinc X v16 [(9, .int v16), (8, .int v15), (0, .ref (nt_a w 0)), (1, .int x1), (2, .int x2), (3, .int x3), (4, .int x4), (5, .int x5), (6, .int x6), (7, .int x7)] dX9_send_96 9 rfl (by rw [nt_ci_1]; exact ev16) (by decide) rfl ?_
        refine nt_goto X 65 dX9_send_99 (by decide) ?_
        refine nt_sub [2, 3, 4, 5, 6, 7, 8, 9, 1, 0] rfl ?_
        have h := nt_R_some h
        exact hI v15 v16 g13 h
      · have h := hf q14
        refine nt_iconst X dX9_send_88 nt_ci_1 ?_
        refine nt_goto X 93 dX9_send_89 (by decide) ?_
        refine nt_iadd X dX9_send_93 ?_
        obtain ⟨v17, ev17, h⟩ := nt_R_lt h
        refine nt_topi ev17 ?_
        refine nt_istore X [(8, .int v17), (0, .ref (nt_a w 0)), (1, .int x1), (2, .int x2), (3, .int x3), (4, .int x4), (5, .int x5), (6, .int x6), (7, .int x7), (9, .int x9)] dX9_send_94 (by decide) rfl ?_
        obtain ⟨v18, ev18, h⟩ := nt_R_lt h
        refine nt_iinc X v18 [(9, .int v18), (8, .int v17), (0, .ref (nt_a w 0)), (1, .int x1), (2, .int x2), (3, .int x3), (4, .int x4), (5, .int x5), (6, .int x6), (7, .int x7)] dX9_send_96 9 rfl (by rw [nt_ci_1]; exact ev18) (by decide) rfl ?_
        refine nt_goto X 65 dX9_send_99 (by decide) ?_
        refine nt_sub [2, 3, 4, 5, 6, 7, 8, 9, 1, 0] rfl ?_
        have h := nt_R_some h
        exact hI v17 v18 g13 h
def bMo_send_37 (x1 : Int32) (x2 : Int32) (x3 : Int32) (x4 : Int32) (x5 : Int32) (x6 : Int32) (g : nt_T) : Option ((Int32 × Int32 × Int32 × nt_T) ⊕ ((Int32 × Int32 × nt_T))) :=
  (if (4 : Int32) ≤ x6 then
    (some (.inr (x4, x5, g)))
  else
    (nt_gd (nt_in x1 9) <| nt_lt (nt_st g 11 (Int32.toNatClampNeg x1) x6) fun g9 => nt_b1 (fMo_sitting x6 g9) fun r10 => (nt_b1 (nt_it (fun z => bMo_send_65 x1 x2 x3 x4 x5 x6 r10 z.1 z.2.1 z.2.2) nt_fu ((0 : Int32), (0 : Int32), g9)) fun z24 => match z24 with
  | (v19, g20) => (if v19 ≤ x5 then
    (nt_lt (x6 + (1 : Int32)) fun v22 => some (.inl (x4, x5, v22, g20)))
  else
    (nt_lt (x6 + (1 : Int32)) fun v23 => some (.inl (x6, v19, v23, g20)))))))
set_option maxRecDepth 100000 in
set_option maxHeartbeats 4000000 in
theorem tbMo_send_37 {p : Program} {l : Launch} {e : Env} {s : State} {m : MethodId} {args : Array Value} {below : List Frame} {meth : Method} {c : Code} {w : nt_w} {A : Nat → Prop} (hw : nt_isM w) {Q : State → Prop} (X : nt_X cX9_send 10 RX9 (some .int) w A p s m args meth c) (x1 : Int32) (x2 : Int32) (x3 : Int32)  {Qx : ((Int32 × Int32 × nt_T)) → Prop} (hE0 : ∀ (y4 : Int32) (y5 : Int32) (gy : nt_T), Qx (y4, y5, gy) → nt_G p l e (nt_rm 79) s m args below meth c w A 0 0 Q 10 123 [(0, .ref (nt_a w 0)), (1, .int x1), (2, .int x2), (3, .int x3), (4, .int y4), (5, .int y5)] [] gy) : ∀ (n : Nat) (x4 : Int32) (x5 : Int32) (x6 : Int32) (g : nt_T), nt_R (nt_it (fun z => bMo_send_37 x1 x2 x3 z.1 z.2.1 z.2.2.1 z.2.2.2) n (x4, x5, x6, g)) Qx → nt_G p l e (nt_rm 79) s m args below meth c w A 0 0 Q 10 37 [(0, .ref (nt_a w 0)), (1, .int x1), (2, .int x2), (3, .int x3), (4, .int x4), (5, .int x5), (6, .int x6)] [] g := by
  intro n
  induction n with
  | zero =>
    intro x4 x5 x6 g h
    exact nt_R_none h
  | succ n ih =>
    intro x4 x5 x6 g h
    have h : nt_R (bMo_send_37 x1 x2 x3 x4 x5 x6 g) (nt_Qz (fun z => bMo_send_37 x1 x2 x3 z.1 z.2.1 z.2.2.1 z.2.2.2) n Qx) := nt_R_it h
    have hI : ∀ (y4 : Int32) (y5 : Int32) (y6 : Int32) (gy : nt_T), nt_Qz (fun z => bMo_send_37 x1 x2 x3 z.1 z.2.1 z.2.2.1 z.2.2.2) n Qx (.inl (y4, y5, y6, gy)) → nt_G p l e (nt_rm 79) s m args below meth c w A 0 0 Q 10 37 [(0, .ref (nt_a w 0)), (1, .int x1), (2, .int x2), (3, .int x3), (4, .int y4), (5, .int y5), (6, .int y6)] [] gy := fun y4 y5 y6 gy q => ih y4 y5 y6 gy q
    have hE0 : ∀ (y4 : Int32) (y5 : Int32) (gy : nt_T), nt_Qz (fun z => bMo_send_37 x1 x2 x3 z.1 z.2.1 z.2.2.1 z.2.2.2) n Qx (.inr (y4, y5, gy)) → nt_G p l e (nt_rm 79) s m args below meth c w A 0 0 Q 10 123 [(0, .ref (nt_a w 0)), (1, .int x1), (2, .int x2), (3, .int x3), (4, .int y4), (5, .int y5)] [] gy := hE0
    generalize nt_Qz (fun z => bMo_send_37 x1 x2 x3 z.1 z.2.1 z.2.2.1 z.2.2.2) n Qx = Qz at h hI hE0
    unfold bMo_send_37 at h
    refine nt_iload X dX9_send_37 6 rfl ?_
    refine nt_iconst X dX9_send_39 nt_ci_4 ?_
    obtain ⟨ht, hf⟩ := nt_R_if h
    refine nt_icmp_ge X 123 dX9_send_40 (by decide) (fun q7 => ?_) (fun q7 => ?_)
    · have h := ht q7
      refine nt_sub [0, 1, 2, 3, 4, 5] rfl ?_
      have h := nt_R_some h
      exact hE0 x4 x5 g h
    · have h := hf q7
      refine nt_aload_n X dX9_send_43 rfl 0 rfl ?_
      refine nt_get X 0 inX9 (nt_lM hw (Nat.le_of_ble_eq_true rfl)) (nt_m0 hw) rfl (j := 15) (by decide) wd_637 (v := .ref (nt_a w 11)) rfl dX9_send_44 ?_
      refine nt_iload_n X dX9_send_47 rfl 1 rfl ?_
      refine nt_iload X dX9_send_48 6 rfl ?_
      obtain ⟨q8, h⟩ := nt_R_gd h
      refine nt_iast X 11 0 (nt_lM hw (Nat.le_of_ble_eq_true rfl)) (nt_m11 hw) (nt_tM hw) q8 dX9_send_50 ?_
      obtain ⟨g9, eg9, h⟩ := nt_R_lt h
      refine nt_geq eg9 ?_
      refine nt_aload_n X dX9_send_51 rfl 0 rfl ?_
      refine nt_iload X dX9_send_52 6 rfl ?_
      obtain ⟨r10, er10, h⟩ := nt_R_b1 h
      refine nt_cVi X (As := [.int x6]) 0 (nt_lM hw (Nat.le_of_ble_eq_true rfl)) (nt_m0 hw) rfl (cMo_sitting hw er10) wd_864 wd_862 wd_863 wd_1100 wd_16 rfl hd_X9_sitting ⟨Nat.le_of_ble_eq_true rfl, Nat.le_of_ble_eq_true rfl⟩ ⟨Nat.le_refl 0, Nat.le_refl 0⟩ (Nat.le_of_ble_eq_true rfl) rfl dX9_send_54 ?_
      refine nt_istore X [(7, .int r10), (0, .ref (nt_a w 0)), (1, .int x1), (2, .int x2), (3, .int x3), (4, .int x4), (5, .int x5), (6, .int x6)] dX9_send_57 (by decide) rfl ?_
      refine nt_iconst X dX9_send_59 nt_ci_0 ?_
      refine nt_istore X [(8, .int (0 : Int32)), (7, .int r10), (0, .ref (nt_a w 0)), (1, .int x1), (2, .int x2), (3, .int x3), (4, .int x4), (5, .int x5), (6, .int x6)] dX9_send_60 (by decide) rfl ?_
      refine nt_iconst X dX9_send_62 nt_ci_0 ?_
      refine nt_istore X [(9, .int (0 : Int32)), (8, .int (0 : Int32)), (7, .int r10), (0, .ref (nt_a w 0)), (1, .int x1), (2, .int x2), (3, .int x3), (4, .int x4), (5, .int x5), (6, .int x6)] dX9_send_63 (by decide) rfl ?_
      obtain ⟨z24, hz24, h⟩ := nt_R_b1 h
      refine nt_sub [3, 4, 5, 6, 7, 8, 9, 2, 1, 0] rfl ?_
      refine tbMo_send_65 hw X x1 x2 x3 x4 x5 x6 r10 (Qx := fun z => z = z24) (fun v19 g20 hq => ?_) nt_fu (0 : Int32) (0 : Int32) g9 ⟨_, hz24, rfl⟩
      subst hq
      refine nt_iload X dX9_send_102 8 rfl ?_
      refine nt_iload X dX9_send_104 5 rfl ?_
      obtain ⟨ht, hf⟩ := nt_R_if h
      refine nt_icmp_le X 117 dX9_send_106 (by decide) (fun q21 => ?_) (fun q21 => ?_)
      · have h := ht q21
        obtain ⟨v22, ev22, h⟩ := nt_R_lt h
        refine nt_iinc X v22 [(6, .int v22), (0, .ref (nt_a w 0)), (1, .int x1), (2, .int x2), (3, .int x3), (4, .int x4), (5, .int x5), (7, .int r10), (8, .int v19)] dX9_send_117 6 rfl (by rw [nt_ci_1]; exact ev22) (by decide) rfl ?_
        refine nt_goto X 37 dX9_send_120 (by decide) ?_
        refine nt_sub [1, 2, 3, 4, 5, 6, 0] rfl ?_
        have h := nt_R_some h
        exact hI x4 x5 v22 g20 h
      · have h := hf q21
        refine nt_iload X dX9_send_109 6 rfl ?_
        refine nt_istore X [(4, .int x6), (0, .ref (nt_a w 0)), (1, .int x1), (2, .int x2), (3, .int x3), (5, .int x5), (6, .int x6), (7, .int r10), (8, .int v19)] dX9_send_111 (by decide) rfl ?_
        refine nt_iload X dX9_send_113 8 rfl ?_
        refine nt_istore X [(5, .int v19), (4, .int x6), (0, .ref (nt_a w 0)), (1, .int x1), (2, .int x2), (3, .int x3), (6, .int x6), (7, .int r10), (8, .int v19)] dX9_send_115 (by decide) rfl ?_
        obtain ⟨v23, ev23, h⟩ := nt_R_lt h
        refine nt_iinc X v23 [(6, .int v23), (5, .int v19), (4, .int x6), (0, .ref (nt_a w 0)), (1, .int x1), (2, .int x2), (3, .int x3), (7, .int r10), (8, .int v19)] dX9_send_117 6 rfl (by rw [nt_ci_1]; exact ev23) (by decide) rfl ?_
        refine nt_goto X 37 dX9_send_120 (by decide) ?_
        refine nt_sub [3, 4, 5, 6, 2, 1, 0] rfl ?_
        have h := nt_R_some h
        exact hI x6 v19 v23 g20 h
def fMo_send (x1 : Int32) (x2 : Int32) (g : nt_T) : Option (Int32 × nt_T) :=
  nt_b1 (fMo_isPerson x1 g) fun r1 => (if r1 = 0 then
    (some ((-2 : Int32), g))
  else
    (nt_b1 (fMo_in (Int32.toInt64 x2) (0 : Int64) (1 : Int64) g) fun r3 => (if r3 = 0 then
    (some ((-2 : Int32), g))
  else
    (nt_gd (nt_in x1 9) <| nt_lt (g 11 (Int32.toNatClampNeg x1)) fun v6 => (nt_b1 (nt_it (fun z => bMo_send_37 x1 x2 v6 z.1 z.2.1 z.2.2.1 z.2.2.2) nt_fu ((0 : Int32), (-1 : Int32), (0 : Int32), g)) fun z31 => match z31 with
  | (v25, v26, g27) => nt_gd (nt_in x1 9) <| nt_lt (nt_st g27 11 (Int32.toNatClampNeg x1) v6) fun g29 => (if x2 = 0 then
    (some (v25, g29))
  else
    (some (v26, g29))))))))
set_option maxRecDepth 100000 in
set_option maxHeartbeats 4000000 in
theorem cMo_send {l : Launch} {w : nt_w} (hw : nt_isM w) {x1 : Int32} {x2 : Int32} {g : nt_T} {r : Int32} {g2 : nt_T} (hf : fMo_send x1 x2 g = some (r, g2)) : nt_Mi l w yX9_send cX9_send 10 (some .int) 79 [.ref (nt_a w 0), .int x1, .int x2] g r g2 := by
  refine nt_Mi_of (by decide) (Nat.le_of_ble_eq_true rfl) (fun p e s m args below meth c A X => ?_)
  have X : nt_X cX9_send 10 RX9 (some .int) w A p s m args meth c := X
  have h : nt_R (fMo_send x1 x2 g) (fun z => z = (r, g2)) := ⟨_, hf, rfl⟩
  unfold fMo_send at h
  show nt_G p l e (nt_rm 79) s m args below meth c w A 0 0 (nt_Qi w A below args s r g2) 10 0 [(0, .ref (nt_a w 0)), (1, .int x1), (2, .int x2)] [] g
  refine nt_aload_n X dX9_send_0 rfl 0 rfl ?_
  refine nt_iload_n X dX9_send_1 rfl 1 rfl ?_
  obtain ⟨r1, er1, h⟩ := nt_R_b1 h
  refine nt_cVi X (As := [.int x1]) 0 (nt_lM hw (Nat.le_of_ble_eq_true rfl)) (nt_m0 hw) rfl (cMo_isPerson hw er1) wd_757 wd_755 wd_756 wd_1078 wd_16 rfl hd_X9_isPerson ⟨Nat.le_of_ble_eq_true rfl, Nat.le_of_ble_eq_true rfl⟩ ⟨Nat.le_refl 0, Nat.le_refl 0⟩ (Nat.le_of_ble_eq_true rfl) rfl dX9_send_2 ?_
  obtain ⟨ht, hf⟩ := nt_R_if h
  refine nt_if_eq X 18 dX9_send_5 (by decide) (fun q2 => ?_) (fun q2 => ?_)
  · have h := ht q2
    refine nt_bipush X dX9_send_18 nt_cb_m2 ?_
    have h := nt_R_some h
    exact nt_iret X dX9_send_20 h
  · have h := hf q2
    refine nt_iload_n X dX9_send_8 rfl 2 rfl ?_
    refine nt_i2l X dX9_send_9 rfl ?_
    refine nt_lconst X dX9_send_10 nt_cl_0 ?_
    refine nt_lconst X dX9_send_11 nt_cl_1 ?_
    obtain ⟨r3, er3, h⟩ := nt_R_b1 h
    refine nt_cSi X (As := [.long (Int32.toInt64 x2), .long (0 : Int64), .long (1 : Int64)]) (cMo_in hw er3) wd_732 wd_730 wd_731 wd_16 hd_X9_in ⟨Nat.le_of_ble_eq_true rfl, Nat.le_of_ble_eq_true rfl⟩ ⟨Nat.le_refl 0, Nat.le_refl 0⟩ (Nat.le_of_ble_eq_true rfl) rfl dX9_send_12 ?_
    obtain ⟨ht, hf⟩ := nt_R_if h
    refine nt_if_ne X 21 dX9_send_15 (by decide) (fun q4 => ?_) (fun q4 => ?_)
    · have h := hf q4
      refine nt_aload_n X dX9_send_21 rfl 0 rfl ?_
      refine nt_get X 0 inX9 (nt_lM hw (Nat.le_of_ble_eq_true rfl)) (nt_m0 hw) rfl (j := 15) (by decide) wd_637 (v := .ref (nt_a w 11)) rfl dX9_send_22 ?_
      refine nt_iload_n X dX9_send_25 rfl 1 rfl ?_
      obtain ⟨q5, h⟩ := nt_R_gd h
      refine nt_iald X 11 0 (nt_lM hw (Nat.le_of_ble_eq_true rfl)) (nt_m11 hw) (nt_tM hw) q5 dX9_send_26 ?_
      obtain ⟨v6, ev6, h⟩ := nt_R_lt h
      refine nt_topi ev6 ?_
      refine nt_istore_n X [(3, .int v6), (0, .ref (nt_a w 0)), (1, .int x1), (2, .int x2)] dX9_send_27 rfl (by decide) rfl ?_
      refine nt_iconst X dX9_send_28 nt_ci_0 ?_
      refine nt_istore X [(4, .int (0 : Int32)), (3, .int v6), (0, .ref (nt_a w 0)), (1, .int x1), (2, .int x2)] dX9_send_29 (by decide) rfl ?_
      refine nt_iconst X dX9_send_31 nt_ci_m1 ?_
      refine nt_istore X [(5, .int (-1 : Int32)), (4, .int (0 : Int32)), (3, .int v6), (0, .ref (nt_a w 0)), (1, .int x1), (2, .int x2)] dX9_send_32 (by decide) rfl ?_
      refine nt_iconst X dX9_send_34 nt_ci_0 ?_
      refine nt_istore X [(6, .int (0 : Int32)), (5, .int (-1 : Int32)), (4, .int (0 : Int32)), (3, .int v6), (0, .ref (nt_a w 0)), (1, .int x1), (2, .int x2)] dX9_send_35 (by decide) rfl ?_
      obtain ⟨z31, hz31, h⟩ := nt_R_b1 h
      refine nt_sub [4, 5, 6, 3, 2, 1, 0] rfl ?_
      refine tbMo_send_37 hw X x1 x2 v6 (Qx := fun z => z = z31) (fun v25 v26 g27 hq => ?_) nt_fu (0 : Int32) (-1 : Int32) (0 : Int32) g ⟨_, hz31, rfl⟩
      subst hq
      refine nt_aload_n X dX9_send_123 rfl 0 rfl ?_
      refine nt_get X 0 inX9 (nt_lM hw (Nat.le_of_ble_eq_true rfl)) (nt_m0 hw) rfl (j := 15) (by decide) wd_637 (v := .ref (nt_a w 11)) rfl dX9_send_124 ?_
      refine nt_iload_n X dX9_send_127 rfl 1 rfl ?_
      refine nt_iload_n X dX9_send_128 rfl 3 rfl ?_
      obtain ⟨q28, h⟩ := nt_R_gd h
      refine nt_iast X 11 0 (nt_lM hw (Nat.le_of_ble_eq_true rfl)) (nt_m11 hw) (nt_tM hw) q28 dX9_send_129 ?_
      obtain ⟨g29, eg29, h⟩ := nt_R_lt h
      refine nt_geq eg29 ?_
      refine nt_iload_n X dX9_send_130 rfl 2 rfl ?_
      obtain ⟨ht, hf⟩ := nt_R_if h
      refine nt_if_ne X 139 dX9_send_131 (by decide) (fun q30 => ?_) (fun q30 => ?_)
      · have h := hf q30
        refine nt_iload X dX9_send_139 5 rfl ?_
        have h := nt_R_some h
        exact nt_iret X dX9_send_141 h
      · have h := ht q30
        refine nt_iload X dX9_send_134 4 rfl ?_
        refine nt_goto X 141 dX9_send_136 (by decide) ?_
        have h := nt_R_some h
        exact nt_iret X dX9_send_141 h
    · have h := ht q4
      refine nt_bipush X dX9_send_18 nt_cb_m2 ?_
      have h := nt_R_some h
      exact nt_iret X dX9_send_20 h
def fMo_stranger (x1 : Int32) (x2 : Int32) (x3 : Int32) (g : nt_T) : Option (Int32 × nt_T) :=
  nt_b1 (fMo_isHouse x1 g) fun r1 => (if r1 = 0 then
    (some ((-2 : Int32), g))
  else
    (nt_b1 (fMo_in (Int32.toInt64 x2) (0 : Int64) (99 : Int64) g) fun r3 => (if r3 = 0 then
    (some ((-2 : Int32), g))
  else
    (nt_b1 (fMo_in (Int32.toInt64 x3) (0 : Int64) (255 : Int64) g) fun r5 => (if r5 = 0 then
    (some ((-2 : Int32), g))
  else
    (nt_b2 (fMo_allMay x1 g) fun r7 g8 => nt_b1 (fMo_bitsOf r7 g8) fun r9 => nt_gd (nt_in (g8 0 17) 9) <| nt_lt (nt_st g8 11 (Int32.toNatClampNeg (g8 0 17)) x1) fun g11 => nt_gd (nt_in (g11 0 17) 9) <| nt_lt (nt_st g11 8 (Int32.toNatClampNeg (g11 0 17)) x2) fun g13 => nt_gd (nt_in (g13 0 17) 9) <| nt_lt (nt_st g13 9 (Int32.toNatClampNeg (g13 0 17)) x3) fun g15 => nt_gd (nt_in (g15 0 17) 9) <| nt_lt (nt_st g15 10 (Int32.toNatClampNeg (g15 0 17)) (0 : Int32)) fun g17 => nt_lt (nt_st g17 0 17 ((g17 0 17) + (1 : Int32))) fun g18 => nt_b2 (fMo_allMay x1 g18) fun r19 g20 => nt_b1 (fMo_bitsOf r19 g20) fun r21 => nt_lt (nt_st g20 0 17 ((g20 0 17) - (1 : Int32))) fun g22 => some ((r21 - r9), g22)))))))
set_option maxRecDepth 100000 in
set_option maxHeartbeats 4000000 in
theorem cMo_stranger {l : Launch} {w : nt_w} (hw : nt_isM w) {x1 : Int32} {x2 : Int32} {x3 : Int32} {g : nt_T} {r : Int32} {g2 : nt_T} (hf : fMo_stranger x1 x2 x3 g = some (r, g2)) : nt_Mi l w yX9_stranger cX9_stranger 6 (some .int) 83 [.ref (nt_a w 0), .int x1, .int x2, .int x3] g r g2 := by
  refine nt_Mi_of (by decide) (Nat.le_of_ble_eq_true rfl) (fun p e s m args below meth c A X => ?_)
  have X : nt_X cX9_stranger 6 RX9 (some .int) w A p s m args meth c := X
  have h : nt_R (fMo_stranger x1 x2 x3 g) (fun z => z = (r, g2)) := ⟨_, hf, rfl⟩
  unfold fMo_stranger at h
  show nt_G p l e (nt_rm 83) s m args below meth c w A 0 0 (nt_Qi w A below args s r g2) 6 0 [(0, .ref (nt_a w 0)), (1, .int x1), (2, .int x2), (3, .int x3)] [] g
  refine nt_iload_n X dX9_stranger_0 rfl 1 rfl ?_
  obtain ⟨r1, er1, h⟩ := nt_R_b1 h
  refine nt_cSi X (As := [.int x1]) (cMo_isHouse hw er1) wd_855 wd_853 wd_854 wd_16 hd_X9_isHouse ⟨Nat.le_of_ble_eq_true rfl, Nat.le_of_ble_eq_true rfl⟩ ⟨Nat.le_refl 0, Nat.le_refl 0⟩ (Nat.le_of_ble_eq_true rfl) rfl dX9_stranger_1 ?_
  obtain ⟨ht, hf⟩ := nt_R_if h
  refine nt_if_eq X 31 dX9_stranger_4 (by decide) (fun q2 => ?_) (fun q2 => ?_)
  · have h := ht q2
    refine nt_bipush X dX9_stranger_31 nt_cb_m2 ?_
    have h := nt_R_some h
    exact nt_iret X dX9_stranger_33 h
  · have h := hf q2
    refine nt_iload_n X dX9_stranger_7 rfl 2 rfl ?_
    refine nt_i2l X dX9_stranger_8 rfl ?_
    refine nt_lconst X dX9_stranger_9 nt_cl_0 ?_
    refine nt_ldc2 X wd_759 dX9_stranger_10 ?_
    obtain ⟨r3, er3, h⟩ := nt_R_b1 h
    refine nt_cSi X (As := [.long (Int32.toInt64 x2), .long (0 : Int64), .long (99 : Int64)]) (cMo_in hw er3) wd_732 wd_730 wd_731 wd_16 hd_X9_in ⟨Nat.le_of_ble_eq_true rfl, Nat.le_of_ble_eq_true rfl⟩ ⟨Nat.le_refl 0, Nat.le_refl 0⟩ (Nat.le_of_ble_eq_true rfl) rfl dX9_stranger_13 ?_
    obtain ⟨ht, hf⟩ := nt_R_if h
    refine nt_if_eq X 31 dX9_stranger_16 (by decide) (fun q4 => ?_) (fun q4 => ?_)
    · have h := ht q4
      refine nt_bipush X dX9_stranger_31 nt_cb_m2 ?_
      have h := nt_R_some h
      exact nt_iret X dX9_stranger_33 h
    · have h := hf q4
      refine nt_iload_n X dX9_stranger_19 rfl 3 rfl ?_
      refine nt_i2l X dX9_stranger_20 rfl ?_
      refine nt_lconst X dX9_stranger_21 nt_cl_0 ?_
      refine nt_ldc2 X wd_749 dX9_stranger_22 ?_
      obtain ⟨r5, er5, h⟩ := nt_R_b1 h
      refine nt_cSi X (As := [.long (Int32.toInt64 x3), .long (0 : Int64), .long (255 : Int64)]) (cMo_in hw er5) wd_732 wd_730 wd_731 wd_16 hd_X9_in ⟨Nat.le_of_ble_eq_true rfl, Nat.le_of_ble_eq_true rfl⟩ ⟨Nat.le_refl 0, Nat.le_refl 0⟩ (Nat.le_of_ble_eq_true rfl) rfl dX9_stranger_25 ?_
      obtain ⟨ht, hf⟩ := nt_R_if h
      refine nt_if_ne X 34 dX9_stranger_28 (by decide) (fun q6 => ?_) (fun q6 => ?_)
      · have h := hf q6
        refine nt_aload_n X dX9_stranger_34 rfl 0 rfl ?_
        refine nt_iload_n X dX9_stranger_35 rfl 1 rfl ?_
        obtain ⟨r7, g8, er7, h⟩ := nt_R_b2 h
        refine nt_cVi X (As := [.int x1]) 0 (nt_lM hw (Nat.le_of_ble_eq_true rfl)) (nt_m0 hw) rfl (cMo_allMay hw er7) wd_858 wd_856 wd_857 wd_1098 wd_16 rfl hd_X9_allMay ⟨Nat.le_of_ble_eq_true rfl, Nat.le_of_ble_eq_true rfl⟩ ⟨Nat.le_refl 0, Nat.le_refl 0⟩ (Nat.le_of_ble_eq_true rfl) rfl dX9_stranger_36 ?_
        obtain ⟨r9, er9, h⟩ := nt_R_b1 h
        refine nt_cSi X (As := [.int r7]) (cMo_bitsOf hw er9) wd_873 wd_871 wd_872 wd_16 hd_X9_bitsOf ⟨Nat.le_of_ble_eq_true rfl, Nat.le_of_ble_eq_true rfl⟩ ⟨Nat.le_refl 0, Nat.le_refl 0⟩ (Nat.le_of_ble_eq_true rfl) rfl dX9_stranger_39 ?_
        refine nt_istore X [(4, .int r9), (0, .ref (nt_a w 0)), (1, .int x1), (2, .int x2), (3, .int x3)] dX9_stranger_42 (by decide) rfl ?_
        refine nt_aload_n X dX9_stranger_44 rfl 1 rfl ?_
        refine nt_get X 0 inX9 (nt_lM hw (Nat.le_of_ble_eq_true rfl)) (nt_m0 hw) rfl (j := 15) (by decide) wd_637 (v := .ref (nt_a w 11)) rfl dX9_stranger_45 ?_
        refine nt_aload_n X dX9_stranger_48 rfl 1 rfl ?_
        refine nt_get X 0 inX9 (nt_lM hw (Nat.le_of_ble_eq_true rfl)) (nt_m0 hw) rfl (j := 17) (by decide) wd_639 (v := .int (g8 0 17)) rfl dX9_stranger_49 ?_
        refine nt_iload_n X dX9_stranger_52 rfl 2 rfl ?_
        obtain ⟨q10, h⟩ := nt_R_gd h
        refine nt_iast X 11 0 (nt_lM hw (Nat.le_of_ble_eq_true rfl)) (nt_m11 hw) (nt_tM hw) q10 dX9_stranger_53 ?_
        obtain ⟨g11, eg11, h⟩ := nt_R_lt h
        refine nt_geq eg11 ?_
        refine nt_aload_n X dX9_stranger_54 rfl 1 rfl ?_
        refine nt_get X 0 inX9 (nt_lM hw (Nat.le_of_ble_eq_true rfl)) (nt_m0 hw) rfl (j := 12) (by decide) wd_634 (v := .ref (nt_a w 8)) rfl dX9_stranger_55 ?_
        refine nt_aload_n X dX9_stranger_58 rfl 1 rfl ?_
        refine nt_get X 0 inX9 (nt_lM hw (Nat.le_of_ble_eq_true rfl)) (nt_m0 hw) rfl (j := 17) (by decide) wd_639 (v := .int (g11 0 17)) rfl dX9_stranger_59 ?_
        refine nt_iload_n X dX9_stranger_62 rfl 3 rfl ?_
        obtain ⟨q12, h⟩ := nt_R_gd h
        refine nt_iast X 8 0 (nt_lM hw (Nat.le_of_ble_eq_true rfl)) (nt_m8 hw) (nt_tM hw) q12 dX9_stranger_63 ?_
        obtain ⟨g13, eg13, h⟩ := nt_R_lt h
        refine nt_geq eg13 ?_
        refine nt_aload_n X dX9_stranger_64 rfl 1 rfl ?_
        refine nt_get X 0 inX9 (nt_lM hw (Nat.le_of_ble_eq_true rfl)) (nt_m0 hw) rfl (j := 13) (by decide) wd_635 (v := .ref (nt_a w 9)) rfl dX9_stranger_65 ?_
        refine nt_aload_n X dX9_stranger_68 rfl 1 rfl ?_
        refine nt_get X 0 inX9 (nt_lM hw (Nat.le_of_ble_eq_true rfl)) (nt_m0 hw) rfl (j := 17) (by decide) wd_639 (v := .int (g13 0 17)) rfl dX9_stranger_69 ?_
        refine nt_iload_n X dX9_stranger_72 rfl 4 rfl ?_
        obtain ⟨q14, h⟩ := nt_R_gd h
        refine nt_iast X 9 0 (nt_lM hw (Nat.le_of_ble_eq_true rfl)) (nt_m9 hw) (nt_tM hw) q14 dX9_stranger_73 ?_
        obtain ⟨g15, eg15, h⟩ := nt_R_lt h
        refine nt_geq eg15 ?_
        refine nt_aload_n X dX9_stranger_74 rfl 1 rfl ?_
        refine nt_get X 0 inX9 (nt_lM hw (Nat.le_of_ble_eq_true rfl)) (nt_m0 hw) rfl (j := 14) (by decide) wd_636 (v := .ref (nt_a w 10)) rfl dX9_stranger_75 ?_
        refine nt_aload_n X dX9_stranger_78 rfl 1 rfl ?_
        refine nt_get X 0 inX9 (nt_lM hw (Nat.le_of_ble_eq_true rfl)) (nt_m0 hw) rfl (j := 17) (by decide) wd_639 (v := .int (g15 0 17)) rfl dX9_stranger_79 ?_
        refine nt_iconst X dX9_stranger_82 nt_ci_0 ?_
        obtain ⟨q16, h⟩ := nt_R_gd h
        refine nt_iast X 10 0 (nt_lM hw (Nat.le_of_ble_eq_true rfl)) (nt_m10 hw) (nt_tM hw) q16 dX9_stranger_83 ?_
        obtain ⟨g17, eg17, h⟩ := nt_R_lt h
        refine nt_geq eg17 ?_
        refine nt_aload_n X dX9_stranger_84 rfl 1 rfl ?_
        refine nt_dup X dX9_stranger_85 rfl ?_
        refine nt_get X 0 inX9 (nt_lM hw (Nat.le_of_ble_eq_true rfl)) (nt_m0 hw) rfl (j := 17) (by decide) wd_639 (v := .int (g17 0 17)) rfl dX9_stranger_86 ?_
        refine nt_iconst X dX9_stranger_89 nt_ci_1 ?_
        refine nt_iadd X dX9_stranger_90 ?_
        refine nt_put X 0 inX9 (nt_lM hw (Nat.le_of_ble_eq_true rfl)) (nt_m0 hw) rfl (j := 17) (by decide) wd_639 tyX9 tyX9_ok nmX9 rfl (ty := .int) rfl rfl rfl (fun _ => Nat.le_of_ble_eq_true rfl) (fun _ => rfl) dX9_stranger_91 ?_
        obtain ⟨g18, eg18, h⟩ := nt_R_lt h
        refine nt_geq eg18 ?_
        refine nt_aload_n X dX9_stranger_94 rfl 1 rfl ?_
        refine nt_iload_n X dX9_stranger_95 rfl 2 rfl ?_
        obtain ⟨r19, g20, er19, h⟩ := nt_R_b2 h
        refine nt_cVi X (As := [.int x1]) 0 (nt_lM hw (Nat.le_of_ble_eq_true rfl)) (nt_m0 hw) rfl (cMo_allMay hw er19) wd_858 wd_856 wd_857 wd_1098 wd_16 rfl hd_X9_allMay ⟨Nat.le_of_ble_eq_true rfl, Nat.le_of_ble_eq_true rfl⟩ ⟨Nat.le_refl 0, Nat.le_refl 0⟩ (Nat.le_of_ble_eq_true rfl) rfl dX9_stranger_96 ?_
        obtain ⟨r21, er21, h⟩ := nt_R_b1 h
        refine nt_cSi X (As := [.int r19]) (cMo_bitsOf hw er21) wd_873 wd_871 wd_872 wd_16 hd_X9_bitsOf ⟨Nat.le_of_ble_eq_true rfl, Nat.le_of_ble_eq_true rfl⟩ ⟨Nat.le_refl 0, Nat.le_refl 0⟩ (Nat.le_of_ble_eq_true rfl) rfl dX9_stranger_99 ?_
        refine nt_istore X [(5, .int r21), (4, .int r9), (0, .ref (nt_a w 0)), (1, .int x1), (2, .int x2), (3, .int x3)] dX9_stranger_102 (by decide) rfl ?_
        refine nt_aload_n X dX9_stranger_104 rfl 2 rfl ?_
        refine nt_dup X dX9_stranger_105 rfl ?_
        refine nt_get X 0 inX9 (nt_lM hw (Nat.le_of_ble_eq_true rfl)) (nt_m0 hw) rfl (j := 17) (by decide) wd_639 (v := .int (g20 0 17)) rfl dX9_stranger_106 ?_
        refine nt_iconst X dX9_stranger_109 nt_ci_1 ?_
        refine nt_isub X dX9_stranger_110 ?_
        refine nt_put X 0 inX9 (nt_lM hw (Nat.le_of_ble_eq_true rfl)) (nt_m0 hw) rfl (j := 17) (by decide) wd_639 tyX9 tyX9_ok nmX9 rfl (ty := .int) rfl rfl rfl (fun _ => Nat.le_of_ble_eq_true rfl) (fun _ => rfl) dX9_stranger_111 ?_
        obtain ⟨g22, eg22, h⟩ := nt_R_lt h
        refine nt_geq eg22 ?_
        refine nt_iload X dX9_stranger_114 0 rfl ?_
        refine nt_iload X dX9_stranger_116 1 rfl ?_
        refine nt_isub X dX9_stranger_118 ?_
        have h := nt_R_some h
        exact nt_iret X dX9_stranger_119 h
      · have h := ht q6
        refine nt_bipush X dX9_stranger_31 nt_cb_m2 ?_
        have h := nt_R_some h
        exact nt_iret X dX9_stranger_33 h
def jMo_judge_123 (x1 : Int32) (x2 : Int32) (x3 : Int32) (x4 : Int32) (x5 : Int32) (s0 : Int32) (g : nt_T) : Option ((Int32 × Int32 × nt_T) ⊕ ((Int32 × nt_T))) :=
  (if s0 = (-1 : Int32) then
    (nt_lt (x3 + (1 : Int32)) fun v23 => some (.inl (x3, v23, g)))
  else
    (nt_b2 (fMo_tellIn x4 x5 s0 g) fun r20 g21 => nt_lt (x3 + (1 : Int32)) fun v22 => some (.inl (x2, v22, g21))))
set_option maxRecDepth 100000 in
set_option maxHeartbeats 4000000 in
theorem tjMo_judge_123 {p : Program} {l : Launch} {e : Env} {s : State} {m : MethodId} {args : Array Value} {below : List Frame} {meth : Method} {c : Code} {w : nt_w} {A : Nat → Prop} (hw : nt_isM w) {Q : State → Prop} (X : nt_X cX9_judge 7 RX9 (some .int) w A p s m args meth c) (x1 : Int32) (x2 : Int32) (x3 : Int32) (x4 : Int32) (x5 : Int32) (s0 : Int32) (g : nt_T) {Qz : (Int32 × Int32 × nt_T) ⊕ ((Int32 × nt_T)) → Prop} (hI : ∀ (y2 : Int32) (y3 : Int32) (gy : nt_T), Qz (.inl (y2, y3, gy)) → nt_G p l e (nt_rm 81) s m args below meth c w A 0 0 Q 7 45 [(0, .ref (nt_a w 0)), (1, .int x1), (2, .int y2), (3, .int y3)] [] gy) (hE0 : ∀ (y2 : Int32) (gy : nt_T), Qz (.inr (y2, gy)) → nt_G p l e (nt_rm 81) s m args below meth c w A 0 0 Q 7 153 [(0, .ref (nt_a w 0)), (1, .int x1), (2, .int y2)] [] gy) (h : nt_R (jMo_judge_123 x1 x2 x3 x4 x5 s0 g) Qz) : nt_G p l e (nt_rm 81) s m args below meth c w A 0 0 Q 7 123 [(0, .ref (nt_a w 0)), (1, .int x1), (2, .int x2), (3, .int x3), (4, .int x4), (5, .int x5)] [.int s0] g := by
  unfold jMo_judge_123 at h
  refine nt_istore X [(6, .int s0), (0, .ref (nt_a w 0)), (1, .int x1), (2, .int x2), (3, .int x3), (4, .int x4), (5, .int x5)] dX9_judge_123 (by decide) rfl ?_
  refine nt_iload X dX9_judge_125 0 rfl ?_
  refine nt_iconst X dX9_judge_127 nt_ci_m1 ?_
  obtain ⟨ht, hf⟩ := nt_R_if h
  refine nt_icmp_ne X 136 dX9_judge_128 (by decide) (fun q19 => ?_) (fun q19 => ?_)
  · have h := hf q19
    refine nt_aload_n X dX9_judge_136 rfl 1 rfl ?_
    refine nt_iload X dX9_judge_137 5 rfl ?_
    refine nt_iload X dX9_judge_139 6 rfl ?_
    refine nt_iload X dX9_judge_141 0 rfl ?_
    obtain ⟨r20, g21, er20, h⟩ := nt_R_b2 h
    refine nt_cVi X (As := [.int x4, .int x5, .int s0]) 0 (nt_lM hw (Nat.le_of_ble_eq_true rfl)) (nt_m0 hw) rfl (cMo_tellIn hw er20) wd_905 wd_903 wd_904 wd_1106 wd_16 rfl hd_X9_tellIn ⟨Nat.le_of_ble_eq_true rfl, Nat.le_of_ble_eq_true rfl⟩ ⟨Nat.le_refl 0, Nat.le_refl 0⟩ (Nat.le_of_ble_eq_true rfl) rfl dX9_judge_143 ?_
    refine nt_pop X dX9_judge_146 rfl ?_
    obtain ⟨v22, ev22, h⟩ := nt_R_lt h
    refine nt_iinc X v22 [(3, .int v22), (6, .int s0), (0, .ref (nt_a w 0)), (1, .int x1), (2, .int x2), (4, .int x4), (5, .int x5)] dX9_judge_147 4 rfl (by rw [nt_ci_1]; exact ev22) (by decide) rfl ?_
    refine nt_goto X 45 dX9_judge_150 (by decide) ?_
    refine nt_sub [2, 3, 4, 0] rfl ?_
    have h := nt_R_some h
    exact hI x2 v22 g21 h
  · have h := ht q19
    refine nt_iload_n X dX9_judge_131 rfl 4 rfl ?_
    refine nt_istore_n X [(2, .int x3), (6, .int s0), (0, .ref (nt_a w 0)), (1, .int x1), (3, .int x3), (4, .int x4), (5, .int x5)] dX9_judge_132 rfl (by decide) rfl ?_
    refine nt_goto X 147 dX9_judge_133 (by decide) ?_
    obtain ⟨v23, ev23, h⟩ := nt_R_lt h
    refine nt_iinc X v23 [(3, .int v23), (2, .int x3), (6, .int s0), (0, .ref (nt_a w 0)), (1, .int x1), (4, .int x4), (5, .int x5)] dX9_judge_147 4 rfl (by rw [nt_ci_1]; exact ev23) (by decide) rfl ?_
    refine nt_goto X 45 dX9_judge_150 (by decide) ?_
    refine nt_sub [3, 4, 1, 0] rfl ?_
    have h := nt_R_some h
    exact hI x3 v23 g h
def jMo_judge_122 (x1 : Int32) (x2 : Int32) (x3 : Int32) (x4 : Int32) (x5 : Int32) (g : nt_T) : Option ((Int32 × Int32 × nt_T) ⊕ ((Int32 × nt_T))) :=
  jMo_judge_123 x1 x2 x3 x4 x5 (-1 : Int32) g
set_option maxRecDepth 100000 in
set_option maxHeartbeats 4000000 in
theorem tjMo_judge_122 {p : Program} {l : Launch} {e : Env} {s : State} {m : MethodId} {args : Array Value} {below : List Frame} {meth : Method} {c : Code} {w : nt_w} {A : Nat → Prop} (hw : nt_isM w) {Q : State → Prop} (X : nt_X cX9_judge 7 RX9 (some .int) w A p s m args meth c) (x1 : Int32) (x2 : Int32) (x3 : Int32) (x4 : Int32) (x5 : Int32) (g : nt_T) {Qz : (Int32 × Int32 × nt_T) ⊕ ((Int32 × nt_T)) → Prop} (hI : ∀ (y2 : Int32) (y3 : Int32) (gy : nt_T), Qz (.inl (y2, y3, gy)) → nt_G p l e (nt_rm 81) s m args below meth c w A 0 0 Q 7 45 [(0, .ref (nt_a w 0)), (1, .int x1), (2, .int y2), (3, .int y3)] [] gy) (hE0 : ∀ (y2 : Int32) (gy : nt_T), Qz (.inr (y2, gy)) → nt_G p l e (nt_rm 81) s m args below meth c w A 0 0 Q 7 153 [(0, .ref (nt_a w 0)), (1, .int x1), (2, .int y2)] [] gy) (h : nt_R (jMo_judge_122 x1 x2 x3 x4 x5 g) Qz) : nt_G p l e (nt_rm 81) s m args below meth c w A 0 0 Q 7 122 [(0, .ref (nt_a w 0)), (1, .int x1), (2, .int x2), (3, .int x3), (4, .int x4), (5, .int x5)] [] g := by
  unfold jMo_judge_122 at h
  refine nt_iconst X dX9_judge_122 nt_ci_m1 ?_
  exact tjMo_judge_123 hw X x1 x2 x3 x4 x5 (-1 : Int32) g hI hE0 h
def bMo_judge_45 (x1 : Int32) (x2 : Int32) (x3 : Int32) (g : nt_T) : Option ((Int32 × Int32 × nt_T) ⊕ ((Int32 × nt_T))) :=
  nt_gd (nt_in x1 4) <| nt_gd (decide (¬ (2 : Int32) = 0)) <| (if ((g 23 (Int32.toNatClampNeg x1)) / (2 : Int32)) ≤ x3 then
    (some (.inr (x2, g)))
  else
    ((if x2 = (-1 : Int32) then
    (nt_gd (nt_in (((40 : Int32) * x1) + ((2 : Int32) * x3)) 160) <| nt_lt (g 24 (Int32.toNatClampNeg (((40 : Int32) * x1) + ((2 : Int32) * x3)))) fun v14 => nt_gd (nt_in ((((40 : Int32) * x1) + ((2 : Int32) * x3)) + (1 : Int32)) 160) <| nt_lt (g 24 (Int32.toNatClampNeg ((((40 : Int32) * x1) + ((2 : Int32) * x3)) + (1 : Int32)))) fun v16 => nt_b1 (fMo_isHouse v14 g) fun r17 => (if r17 = 0 then
    (jMo_judge_122 x1 x2 x3 v14 v16 g)
  else
    (nt_b1 (fMo_isStory v16 g) fun r24 => (if r24 = 0 then
    (jMo_judge_122 x1 x2 x3 v14 v16 g)
  else
    (nt_b2 (fMo_teller v14 v16 g) fun r26 g27 => jMo_judge_123 x1 x2 x3 v14 v16 r26 g27)))))
  else
    (some (.inr (x2, g))))))
set_option maxRecDepth 100000 in
set_option maxHeartbeats 4000000 in
theorem tbMo_judge_45 {p : Program} {l : Launch} {e : Env} {s : State} {m : MethodId} {args : Array Value} {below : List Frame} {meth : Method} {c : Code} {w : nt_w} {A : Nat → Prop} (hw : nt_isM w) {Q : State → Prop} (X : nt_X cX9_judge 7 RX9 (some .int) w A p s m args meth c) (x1 : Int32)  {Qx : ((Int32 × nt_T)) → Prop} (hE0 : ∀ (y2 : Int32) (gy : nt_T), Qx (y2, gy) → nt_G p l e (nt_rm 81) s m args below meth c w A 0 0 Q 7 153 [(0, .ref (nt_a w 0)), (1, .int x1), (2, .int y2)] [] gy) : ∀ (n : Nat) (x2 : Int32) (x3 : Int32) (g : nt_T), nt_R (nt_it (fun z => bMo_judge_45 x1 z.1 z.2.1 z.2.2) n (x2, x3, g)) Qx → nt_G p l e (nt_rm 81) s m args below meth c w A 0 0 Q 7 45 [(0, .ref (nt_a w 0)), (1, .int x1), (2, .int x2), (3, .int x3)] [] g := by
  intro n
  induction n with
  | zero =>
    intro x2 x3 g h
    exact nt_R_none h
  | succ n ih =>
    intro x2 x3 g h
    have h : nt_R (bMo_judge_45 x1 x2 x3 g) (nt_Qz (fun z => bMo_judge_45 x1 z.1 z.2.1 z.2.2) n Qx) := nt_R_it h
    have hI : ∀ (y2 : Int32) (y3 : Int32) (gy : nt_T), nt_Qz (fun z => bMo_judge_45 x1 z.1 z.2.1 z.2.2) n Qx (.inl (y2, y3, gy)) → nt_G p l e (nt_rm 81) s m args below meth c w A 0 0 Q 7 45 [(0, .ref (nt_a w 0)), (1, .int x1), (2, .int y2), (3, .int y3)] [] gy := fun y2 y3 gy q => ih y2 y3 gy q
    have hE0 : ∀ (y2 : Int32) (gy : nt_T), nt_Qz (fun z => bMo_judge_45 x1 z.1 z.2.1 z.2.2) n Qx (.inr (y2, gy)) → nt_G p l e (nt_rm 81) s m args below meth c w A 0 0 Q 7 153 [(0, .ref (nt_a w 0)), (1, .int x1), (2, .int y2)] [] gy := hE0
    generalize nt_Qz (fun z => bMo_judge_45 x1 z.1 z.2.1 z.2.2) n Qx = Qz at h hI hE0
    unfold bMo_judge_45 at h
    refine nt_iload_n X dX9_judge_45 rfl 3 rfl ?_
    refine nt_aload_n X dX9_judge_46 rfl 0 rfl ?_
    refine nt_get X 0 inX9 (nt_lM hw (Nat.le_of_ble_eq_true rfl)) (nt_m0 hw) rfl (j := 49) (by decide) wd_671 (v := .ref (nt_a w 23)) rfl dX9_judge_47 ?_
    refine nt_iload_n X dX9_judge_50 rfl 1 rfl ?_
    obtain ⟨q9, h⟩ := nt_R_gd h
    refine nt_iald X 23 0 (nt_lM hw (Nat.le_of_ble_eq_true rfl)) (nt_m23 hw) (nt_tM hw) q9 dX9_judge_51 ?_
    refine nt_iconst X dX9_judge_52 nt_ci_2 ?_
    obtain ⟨q10, h⟩ := nt_R_gd h
    refine nt_idiv X dX9_judge_53 (of_decide_eq_true q10) ?_
    obtain ⟨ht, hf⟩ := nt_R_if h
    refine nt_icmp_ge X 153 dX9_judge_54 (by decide) (fun q11 => ?_) (fun q11 => ?_)
    · have h := ht q11
      refine nt_sub [0, 1, 2] rfl ?_
      have h := nt_R_some h
      exact hE0 x2 g h
    · have h := hf q11
      refine nt_iload_n X dX9_judge_57 rfl 2 rfl ?_
      refine nt_iconst X dX9_judge_58 nt_ci_m1 ?_
      obtain ⟨ht, hf⟩ := nt_R_if h
      refine nt_icmp_ne X 153 dX9_judge_59 (by decide) (fun q12 => ?_) (fun q12 => ?_)
      · have h := hf q12
        refine nt_sub [0, 1, 2] rfl ?_
        have h := nt_R_some h
        exact hE0 x2 g h
      · have h := ht q12
        refine nt_aload_n X dX9_judge_62 rfl 0 rfl ?_
        refine nt_get X 0 inX9 (nt_lM hw (Nat.le_of_ble_eq_true rfl)) (nt_m0 hw) rfl (j := 50) (by decide) wd_672 (v := .ref (nt_a w 24)) rfl dX9_judge_63 ?_
        refine nt_bipush X dX9_judge_66 nt_cb_40 ?_
        refine nt_iload_n X dX9_judge_68 rfl 1 rfl ?_
        refine nt_imul X dX9_judge_69 ?_
        refine nt_iconst X dX9_judge_70 nt_ci_2 ?_
        refine nt_iload_n X dX9_judge_71 rfl 3 rfl ?_
        refine nt_imul X dX9_judge_72 ?_
        refine nt_iadd X dX9_judge_73 ?_
        obtain ⟨q13, h⟩ := nt_R_gd h
        refine nt_iald X 24 0 (nt_lM hw (Nat.le_of_ble_eq_true rfl)) (nt_m24 hw) (nt_tM hw) q13 dX9_judge_74 ?_
        obtain ⟨v14, ev14, h⟩ := nt_R_lt h
        refine nt_topi ev14 ?_
        refine nt_istore X [(4, .int v14), (0, .ref (nt_a w 0)), (1, .int x1), (2, .int x2), (3, .int x3)] dX9_judge_75 (by decide) rfl ?_
        refine nt_aload_n X dX9_judge_77 rfl 1 rfl ?_
        refine nt_get X 0 inX9 (nt_lM hw (Nat.le_of_ble_eq_true rfl)) (nt_m0 hw) rfl (j := 50) (by decide) wd_672 (v := .ref (nt_a w 24)) rfl dX9_judge_78 ?_
        refine nt_bipush X dX9_judge_81 nt_cb_40 ?_
        refine nt_iload_n X dX9_judge_83 rfl 2 rfl ?_
        refine nt_imul X dX9_judge_84 ?_
        refine nt_iconst X dX9_judge_85 nt_ci_2 ?_
        refine nt_iload_n X dX9_judge_86 rfl 4 rfl ?_
        refine nt_imul X dX9_judge_87 ?_
        refine nt_iadd X dX9_judge_88 ?_
        refine nt_iconst X dX9_judge_89 nt_ci_1 ?_
        refine nt_iadd X dX9_judge_90 ?_
        obtain ⟨q15, h⟩ := nt_R_gd h
        refine nt_iald X 24 0 (nt_lM hw (Nat.le_of_ble_eq_true rfl)) (nt_m24 hw) (nt_tM hw) q15 dX9_judge_91 ?_
        obtain ⟨v16, ev16, h⟩ := nt_R_lt h
        refine nt_topi ev16 ?_
        refine nt_istore X [(5, .int v16), (4, .int v14), (0, .ref (nt_a w 0)), (1, .int x1), (2, .int x2), (3, .int x3)] dX9_judge_92 (by decide) rfl ?_
        refine nt_iload X dX9_judge_94 1 rfl ?_
        obtain ⟨r17, er17, h⟩ := nt_R_b1 h
        refine nt_cSi X (As := [.int v14]) (cMo_isHouse hw er17) wd_855 wd_853 wd_854 wd_16 hd_X9_isHouse ⟨Nat.le_of_ble_eq_true rfl, Nat.le_of_ble_eq_true rfl⟩ ⟨Nat.le_refl 0, Nat.le_refl 0⟩ (Nat.le_of_ble_eq_true rfl) rfl dX9_judge_96 ?_
        obtain ⟨ht, hf⟩ := nt_R_if h
        refine nt_if_eq X 122 dX9_judge_99 (by decide) (fun q18 => ?_) (fun q18 => ?_)
        · have h := ht q18
          refine nt_sub [2, 3, 4, 5, 1, 0] rfl ?_
          exact tjMo_judge_122 hw X x1 x2 x3 v14 v16 g hI hE0 h
        · have h := hf q18
          refine nt_aload_n X dX9_judge_102 rfl 2 rfl ?_
          refine nt_iload X dX9_judge_103 0 rfl ?_
          obtain ⟨r24, er24, h⟩ := nt_R_b1 h
          refine nt_cVi X (As := [.int v16]) 0 (nt_lM hw (Nat.le_of_ble_eq_true rfl)) (nt_m0 hw) rfl (cMo_isStory hw er24) wd_740 wd_738 wd_739 wd_1076 wd_16 rfl hd_X9_isStory ⟨Nat.le_of_ble_eq_true rfl, Nat.le_of_ble_eq_true rfl⟩ ⟨Nat.le_refl 0, Nat.le_refl 0⟩ (Nat.le_of_ble_eq_true rfl) rfl dX9_judge_105 ?_
          obtain ⟨ht, hf⟩ := nt_R_if h
          refine nt_if_eq X 122 dX9_judge_108 (by decide) (fun q25 => ?_) (fun q25 => ?_)
          · have h := ht q25
            refine nt_sub [2, 3, 4, 5, 1, 0] rfl ?_
            exact tjMo_judge_122 hw X x1 x2 x3 v14 v16 g hI hE0 h
          · have h := hf q25
            refine nt_aload_n X dX9_judge_111 rfl 2 rfl ?_
            refine nt_iload X dX9_judge_112 1 rfl ?_
            refine nt_iload X dX9_judge_114 0 rfl ?_
            obtain ⟨r26, g27, er26, h⟩ := nt_R_b2 h
            refine nt_cVi X (As := [.int v14, .int v16]) 0 (nt_lM hw (Nat.le_of_ble_eq_true rfl)) (nt_m0 hw) rfl (cMo_teller hw er26) wd_861 wd_859 wd_860 wd_1099 wd_16 rfl hd_X9_teller ⟨Nat.le_of_ble_eq_true rfl, Nat.le_of_ble_eq_true rfl⟩ ⟨Nat.le_refl 0, Nat.le_refl 0⟩ (Nat.le_of_ble_eq_true rfl) rfl dX9_judge_116 ?_
            refine nt_goto X 123 dX9_judge_119 (by decide) ?_
            refine nt_sub [2, 3, 4, 5, 1, 0] rfl ?_
            exact tjMo_judge_123 hw X x1 x2 x3 v14 v16 r26 g27 hI hE0 h
def jMo_judge_153 (x2 : Int32) (g : nt_T) : Option (Int32 × nt_T) :=
  nt_b1 (fMo_laysBack g) fun g30 => some (x2, g30)
set_option maxRecDepth 100000 in
set_option maxHeartbeats 4000000 in
theorem tjMo_judge_153 {p : Program} {l : Launch} {e : Env} {s : State} {m : MethodId} {args : Array Value} {below : List Frame} {meth : Method} {c : Code} {w : nt_w} {A : Nat → Prop} (hw : nt_isM w) {r : Int32} {g2 : nt_T}  (X : nt_X cX9_judge 7 RX9 (some .int) w A p s m args meth c) (x2 : Int32) (g : nt_T) (h : nt_R (jMo_judge_153 x2 g) (fun z => z = (r, g2))) : nt_G p l e (nt_rm 81) s m args below meth c w A 0 0 (nt_Qi w A below args s r g2) 7 153 [(0, .ref (nt_a w 0)), (2, .int x2)] [] g := by
  unfold jMo_judge_153 at h
  refine nt_aload_n X dX9_judge_153 rfl 0 rfl ?_
  obtain ⟨g30, eg30, h⟩ := nt_R_b1 h
  refine nt_cVv X (As := []) 0 (nt_lM hw (Nat.le_of_ble_eq_true rfl)) (nt_m0 hw) rfl (cMo_laysBack hw eg30) wd_922 wd_920 wd_921 wd_1109 wd_16 rfl hd_X9_laysBack ⟨Nat.le_of_ble_eq_true rfl, Nat.le_of_ble_eq_true rfl⟩ ⟨Nat.le_refl 0, Nat.le_refl 0⟩ (Nat.le_of_ble_eq_true rfl) rfl dX9_judge_154 ?_
  refine nt_iload_n X dX9_judge_157 rfl 1 rfl ?_
  have h := nt_R_some h
  exact nt_iret X dX9_judge_158 h
def fMo_judge (x1 : Int32) (g : nt_T) : Option (Int32 × nt_T) :=
  nt_b1 (fMo_isSheet x1 g) fun r1 => (if r1 = 0 then
    (some ((-2 : Int32), g))
  else
    (nt_gd (nt_in x1 4) <| (if (g 21 (Int32.toNatClampNeg x1)) = 0 then
    (some ((-11 : Int32), g))
  else
    (nt_gd (nt_in x1 4) <| nt_gd (decide (¬ (2 : Int32) = 0)) <| (if ((g 23 (Int32.toNatClampNeg x1)) - (g 23 (Int32.toNatClampNeg x1)) / (2 : Int32) * (2 : Int32)) = (1 : Int32) then
    (some ((-2 : Int32), g))
  else
    (nt_b1 (fMo_laysAside g) fun g8 => (nt_b1 (nt_it (fun z => bMo_judge_45 x1 z.1 z.2.1 z.2.2) nt_fu ((-1 : Int32), (0 : Int32), g8)) fun z31 => match z31 with
  | (v28, g29) => jMo_judge_153 v28 g29)))))))
set_option maxRecDepth 100000 in
set_option maxHeartbeats 4000000 in
theorem cMo_judge {l : Launch} {w : nt_w} (hw : nt_isM w) {x1 : Int32} {g : nt_T} {r : Int32} {g2 : nt_T} (hf : fMo_judge x1 g = some (r, g2)) : nt_Mi l w yX9_judge cX9_judge 7 (some .int) 81 [.ref (nt_a w 0), .int x1] g r g2 := by
  refine nt_Mi_of (by decide) (Nat.le_of_ble_eq_true rfl) (fun p e s m args below meth c A X => ?_)
  have X : nt_X cX9_judge 7 RX9 (some .int) w A p s m args meth c := X
  have h : nt_R (fMo_judge x1 g) (fun z => z = (r, g2)) := ⟨_, hf, rfl⟩
  unfold fMo_judge at h
  show nt_G p l e (nt_rm 81) s m args below meth c w A 0 0 (nt_Qi w A below args s r g2) 7 0 [(0, .ref (nt_a w 0)), (1, .int x1)] [] g
  refine nt_iload_n X dX9_judge_0 rfl 1 rfl ?_
  obtain ⟨r1, er1, h⟩ := nt_R_b1 h
  refine nt_cSi X (As := [.int x1]) (cMo_isSheet hw er1) wd_961 wd_959 wd_960 wd_16 hd_X9_isSheet ⟨Nat.le_of_ble_eq_true rfl, Nat.le_of_ble_eq_true rfl⟩ ⟨Nat.le_refl 0, Nat.le_refl 0⟩ (Nat.le_of_ble_eq_true rfl) rfl dX9_judge_1 ?_
  obtain ⟨ht, hf⟩ := nt_R_if h
  refine nt_if_ne X 10 dX9_judge_4 (by decide) (fun q2 => ?_) (fun q2 => ?_)
  · have h := hf q2
    refine nt_aload_n X dX9_judge_10 rfl 0 rfl ?_
    refine nt_get X 0 inX9 (nt_lM hw (Nat.le_of_ble_eq_true rfl)) (nt_m0 hw) rfl (j := 47) (by decide) wd_669 (v := .ref (nt_a w 21)) rfl dX9_judge_11 ?_
    refine nt_iload_n X dX9_judge_14 rfl 1 rfl ?_
    obtain ⟨q3, h⟩ := nt_R_gd h
    refine nt_zald X 21 1 (nt_lM hw (Nat.le_of_ble_eq_true rfl)) (nt_m21 hw) (nt_tZ hw) q3 dX9_judge_15 ?_
    obtain ⟨ht, hf⟩ := nt_R_if h
    refine nt_if_ne X 22 dX9_judge_16 (by decide) (fun q4 => ?_) (fun q4 => ?_)
    · have h := hf q4
      refine nt_aload_n X dX9_judge_22 rfl 0 rfl ?_
      refine nt_get X 0 inX9 (nt_lM hw (Nat.le_of_ble_eq_true rfl)) (nt_m0 hw) rfl (j := 49) (by decide) wd_671 (v := .ref (nt_a w 23)) rfl dX9_judge_23 ?_
      refine nt_iload_n X dX9_judge_26 rfl 1 rfl ?_
      obtain ⟨q5, h⟩ := nt_R_gd h
      refine nt_iald X 23 0 (nt_lM hw (Nat.le_of_ble_eq_true rfl)) (nt_m23 hw) (nt_tM hw) q5 dX9_judge_27 ?_
      refine nt_iconst X dX9_judge_28 nt_ci_2 ?_
      obtain ⟨q6, h⟩ := nt_R_gd h
      refine nt_irem X dX9_judge_29 (of_decide_eq_true q6) ?_
      refine nt_iconst X dX9_judge_30 nt_ci_1 ?_
      obtain ⟨ht, hf⟩ := nt_R_if h
      refine nt_icmp_ne X 37 dX9_judge_31 (by decide) (fun q7 => ?_) (fun q7 => ?_)
      · have h := hf q7
        refine nt_aload_n X dX9_judge_37 rfl 0 rfl ?_
        obtain ⟨g8, eg8, h⟩ := nt_R_b1 h
        refine nt_cVv X (As := []) 0 (nt_lM hw (Nat.le_of_ble_eq_true rfl)) (nt_m0 hw) rfl (cMo_laysAside hw eg8) wd_916 wd_914 wd_915 wd_1107 wd_16 rfl hd_X9_laysAside ⟨Nat.le_of_ble_eq_true rfl, Nat.le_of_ble_eq_true rfl⟩ ⟨Nat.le_refl 0, Nat.le_refl 0⟩ (Nat.le_of_ble_eq_true rfl) rfl dX9_judge_38 ?_
        refine nt_iconst X dX9_judge_41 nt_ci_m1 ?_
        refine nt_istore_n X [(2, .int (-1 : Int32)), (0, .ref (nt_a w 0)), (1, .int x1)] dX9_judge_42 rfl (by decide) rfl ?_
        refine nt_iconst X dX9_judge_43 nt_ci_0 ?_
        refine nt_istore_n X [(3, .int (0 : Int32)), (2, .int (-1 : Int32)), (0, .ref (nt_a w 0)), (1, .int x1)] dX9_judge_44 rfl (by decide) rfl ?_
        obtain ⟨z31, hz31, h⟩ := nt_R_b1 h
        refine nt_sub [2, 3, 1, 0] rfl ?_
        refine tbMo_judge_45 hw X x1 (Qx := fun z => z = z31) (fun v28 g29 hq => ?_) nt_fu (-1 : Int32) (0 : Int32) g8 ⟨_, hz31, rfl⟩
        subst hq
        refine nt_sub [0, 2] rfl ?_
        exact tjMo_judge_153 hw X v28 g29 h
      · have h := ht q7
        refine nt_bipush X dX9_judge_34 nt_cb_m2 ?_
        have h := nt_R_some h
        exact nt_iret X dX9_judge_36 h
    · have h := ht q4
      refine nt_bipush X dX9_judge_19 nt_cb_m11 ?_
      have h := nt_R_some h
      exact nt_iret X dX9_judge_21 h
  · have h := ht q2
    refine nt_bipush X dX9_judge_7 nt_cb_m2 ?_
    have h := nt_R_some h
    exact nt_iret X dX9_judge_9 h
def bMo_drawn_36 (x2 : Int32) (x4 : Int32) (x5 : Int32) (x3 : Int32) (x6 : Int32) (g : nt_T) : Option ((Int32 × Int32 × nt_T) ⊕ ((Int32 × nt_T))) :=
  (if (g 0 17) ≤ x6 then
    (some (.inr (x3, g)))
  else
    (nt_lt ((x3 * (1103515245 : Int32)) + (12345 : Int32)) fun v6 => nt_gd (decide (¬ (4 : Int32) = 0)) <| nt_gd (nt_in x6 9) <| nt_lt (nt_st g 11 (Int32.toNatClampNeg x6) ((nt_ushr v6 (8 : Int32)) - (nt_ushr v6 (8 : Int32)) / (4 : Int32) * (4 : Int32))) fun g9 => nt_lt (x6 + (1 : Int32)) fun v10 => some (.inl (v6, v10, g9))))
set_option maxRecDepth 100000 in
set_option maxHeartbeats 4000000 in
theorem tbMo_drawn_36 {p : Program} {l : Launch} {e : Env} {s : State} {m : MethodId} {args : Array Value} {below : List Frame} {meth : Method} {c : Code} {w : nt_w} {A : Nat → Prop} (hw : nt_isM w) {Q : State → Prop} (X : nt_X cX9_drawn 8 RX9 (some .int) w A p s m args meth c) (x2 : Int32) (x4 : Int32) (x5 : Int32)  {Qx : ((Int32 × nt_T)) → Prop} (hE0 : ∀ (y3 : Int32) (gy : nt_T), Qx (y3, gy) → nt_G p l e (nt_rm 83) s m args below meth c w A 0 0 Q 8 74 [(0, .ref (nt_a w 0)), (2, .int x2), (3, .int y3), (4, .int x4), (5, .int x5)] [] gy) : ∀ (n : Nat) (x3 : Int32) (x6 : Int32) (g : nt_T), nt_R (nt_it (fun z => bMo_drawn_36 x2 x4 x5 z.1 z.2.1 z.2.2) n (x3, x6, g)) Qx → nt_G p l e (nt_rm 83) s m args below meth c w A 0 0 Q 8 36 [(0, .ref (nt_a w 0)), (2, .int x2), (3, .int x3), (4, .int x4), (5, .int x5), (6, .int x6)] [] g := by
  intro n
  induction n with
  | zero =>
    intro x3 x6 g h
    exact nt_R_none h
  | succ n ih =>
    intro x3 x6 g h
    have h : nt_R (bMo_drawn_36 x2 x4 x5 x3 x6 g) (nt_Qz (fun z => bMo_drawn_36 x2 x4 x5 z.1 z.2.1 z.2.2) n Qx) := nt_R_it h
    have hI : ∀ (y3 : Int32) (y6 : Int32) (gy : nt_T), nt_Qz (fun z => bMo_drawn_36 x2 x4 x5 z.1 z.2.1 z.2.2) n Qx (.inl (y3, y6, gy)) → nt_G p l e (nt_rm 83) s m args below meth c w A 0 0 Q 8 36 [(0, .ref (nt_a w 0)), (2, .int x2), (3, .int y3), (4, .int x4), (5, .int x5), (6, .int y6)] [] gy := fun y3 y6 gy q => ih y3 y6 gy q
    have hE0 : ∀ (y3 : Int32) (gy : nt_T), nt_Qz (fun z => bMo_drawn_36 x2 x4 x5 z.1 z.2.1 z.2.2) n Qx (.inr (y3, gy)) → nt_G p l e (nt_rm 83) s m args below meth c w A 0 0 Q 8 74 [(0, .ref (nt_a w 0)), (2, .int x2), (3, .int y3), (4, .int x4), (5, .int x5)] [] gy := hE0
    generalize nt_Qz (fun z => bMo_drawn_36 x2 x4 x5 z.1 z.2.1 z.2.2) n Qx = Qz at h hI hE0
    unfold bMo_drawn_36 at h
    refine nt_iload X dX9_drawn_36 5 rfl ?_
    refine nt_aload_n X dX9_drawn_38 rfl 0 rfl ?_
    refine nt_get X 0 inX9 (nt_lM hw (Nat.le_of_ble_eq_true rfl)) (nt_m0 hw) rfl (j := 17) (by decide) wd_639 (v := .int (g 0 17)) rfl dX9_drawn_39 ?_
    obtain ⟨ht, hf⟩ := nt_R_if h
    refine nt_icmp_ge X 74 dX9_drawn_42 (by decide) (fun q5 => ?_) (fun q5 => ?_)
    · have h := ht q5
      refine nt_sub [0, 1, 2, 3, 4] rfl ?_
      have h := nt_R_some h
      exact hE0 x3 g h
    · have h := hf q5
      refine nt_iload_n X dX9_drawn_45 rfl 2 rfl ?_
      refine nt_ldcw X wd_967 dX9_drawn_46 ?_
      refine nt_imul X dX9_drawn_49 ?_
      refine nt_sipush X dX9_drawn_50 nt_cs_12345 ?_
      refine nt_iadd X dX9_drawn_53 ?_
      obtain ⟨v6, ev6, h⟩ := nt_R_lt h
      refine nt_topi ev6 ?_
      refine nt_istore_n X [(3, .int v6), (0, .ref (nt_a w 0)), (2, .int x2), (4, .int x4), (5, .int x5), (6, .int x6)] dX9_drawn_54 rfl (by decide) rfl ?_
      refine nt_aload_n X dX9_drawn_55 rfl 1 rfl ?_
      refine nt_get X 0 inX9 (nt_lM hw (Nat.le_of_ble_eq_true rfl)) (nt_m0 hw) rfl (j := 15) (by decide) wd_637 (v := .ref (nt_a w 11)) rfl dX9_drawn_56 ?_
      refine nt_iload X dX9_drawn_59 5 rfl ?_
      refine nt_iload_n X dX9_drawn_61 rfl 0 rfl ?_
      refine nt_bipush X dX9_drawn_62 nt_cb_8 ?_
      refine nt_iushr X (v := (nt_ushr v6 (8 : Int32))) dX9_drawn_64 rfl ?_
      refine nt_iconst X dX9_drawn_65 nt_ci_4 ?_
      obtain ⟨q7, h⟩ := nt_R_gd h
      refine nt_irem X dX9_drawn_66 (of_decide_eq_true q7) ?_
      obtain ⟨q8, h⟩ := nt_R_gd h
      refine nt_iast X 11 0 (nt_lM hw (Nat.le_of_ble_eq_true rfl)) (nt_m11 hw) (nt_tM hw) q8 dX9_drawn_67 ?_
      obtain ⟨g9, eg9, h⟩ := nt_R_lt h
      refine nt_geq eg9 ?_
      obtain ⟨v10, ev10, h⟩ := nt_R_lt h
      refine nt_iinc X v10 [(6, .int v10), (3, .int v6), (0, .ref (nt_a w 0)), (2, .int x2), (4, .int x4), (5, .int x5)] dX9_drawn_68 5 rfl (by rw [nt_ci_1]; exact ev10) (by decide) rfl ?_
      refine nt_goto X 36 dX9_drawn_71 (by decide) ?_
      refine nt_sub [2, 3, 1, 4, 5, 0] rfl ?_
      have h := nt_R_some h
      exact hI v6 v10 g9 h
def bMo_drawn_77 (x2 : Int32) (x3 : Int32) (x5 : Int32) (x4 : Int32) (x6 : Int32) (g : nt_T) : Option ((Int32 × Int32 × nt_T) ⊕ ((Int32 × nt_T))) :=
  (if (4 : Int32) ≤ x6 then
    (some (.inr (x4, g)))
  else
    (nt_b2 (fMo_best x6 g) fun r14 g15 => (if r14 = (-1 : Int32) then
    (nt_lt (x6 + (1 : Int32)) fun v17 => some (.inl (x4, v17, g15)))
  else
    (nt_b2 (fMo_teller x6 r14 g15) fun r18 g19 => nt_b2 (fMo_tellIn x6 r14 r18 g19) fun r20 g21 => nt_lt (x4 + (1 : Int32)) fun v22 => nt_lt (x6 + (1 : Int32)) fun v23 => some (.inl (v22, v23, g21))))))
set_option maxRecDepth 100000 in
set_option maxHeartbeats 4000000 in
theorem tbMo_drawn_77 {p : Program} {l : Launch} {e : Env} {s : State} {m : MethodId} {args : Array Value} {below : List Frame} {meth : Method} {c : Code} {w : nt_w} {A : Nat → Prop} (hw : nt_isM w) {Q : State → Prop} (X : nt_X cX9_drawn 8 RX9 (some .int) w A p s m args meth c) (x2 : Int32) (x3 : Int32) (x5 : Int32)  {Qx : ((Int32 × nt_T)) → Prop} (hE0 : ∀ (y4 : Int32) (gy : nt_T), Qx (y4, gy) → nt_G p l e (nt_rm 83) s m args below meth c w A 0 0 Q 8 123 [(0, .ref (nt_a w 0)), (2, .int x2), (3, .int x3), (4, .int y4), (5, .int x5)] [] gy) : ∀ (n : Nat) (x4 : Int32) (x6 : Int32) (g : nt_T), nt_R (nt_it (fun z => bMo_drawn_77 x2 x3 x5 z.1 z.2.1 z.2.2) n (x4, x6, g)) Qx → nt_G p l e (nt_rm 83) s m args below meth c w A 0 0 Q 8 77 [(0, .ref (nt_a w 0)), (2, .int x2), (3, .int x3), (4, .int x4), (5, .int x5), (6, .int x6)] [] g := by
  intro n
  induction n with
  | zero =>
    intro x4 x6 g h
    exact nt_R_none h
  | succ n ih =>
    intro x4 x6 g h
    have h : nt_R (bMo_drawn_77 x2 x3 x5 x4 x6 g) (nt_Qz (fun z => bMo_drawn_77 x2 x3 x5 z.1 z.2.1 z.2.2) n Qx) := nt_R_it h
    have hI : ∀ (y4 : Int32) (y6 : Int32) (gy : nt_T), nt_Qz (fun z => bMo_drawn_77 x2 x3 x5 z.1 z.2.1 z.2.2) n Qx (.inl (y4, y6, gy)) → nt_G p l e (nt_rm 83) s m args below meth c w A 0 0 Q 8 77 [(0, .ref (nt_a w 0)), (2, .int x2), (3, .int x3), (4, .int y4), (5, .int x5), (6, .int y6)] [] gy := fun y4 y6 gy q => ih y4 y6 gy q
    have hE0 : ∀ (y4 : Int32) (gy : nt_T), nt_Qz (fun z => bMo_drawn_77 x2 x3 x5 z.1 z.2.1 z.2.2) n Qx (.inr (y4, gy)) → nt_G p l e (nt_rm 83) s m args below meth c w A 0 0 Q 8 123 [(0, .ref (nt_a w 0)), (2, .int x2), (3, .int x3), (4, .int y4), (5, .int x5)] [] gy := hE0
    generalize nt_Qz (fun z => bMo_drawn_77 x2 x3 x5 z.1 z.2.1 z.2.2) n Qx = Qz at h hI hE0
    unfold bMo_drawn_77 at h
    refine nt_iload X dX9_drawn_77 5 rfl ?_
    refine nt_iconst X dX9_drawn_79 nt_ci_4 ?_
    obtain ⟨ht, hf⟩ := nt_R_if h
    refine nt_icmp_ge X 123 dX9_drawn_80 (by decide) (fun q13 => ?_) (fun q13 => ?_)
    · have h := ht q13
      refine nt_sub [0, 1, 2, 3, 4] rfl ?_
      have h := nt_R_some h
      exact hE0 x4 g h
    · have h := hf q13
      refine nt_aload_n X dX9_drawn_83 rfl 0 rfl ?_
      refine nt_iload X dX9_drawn_84 5 rfl ?_
      obtain ⟨r14, g15, er14, h⟩ := nt_R_b2 h
      refine nt_cVi X (As := [.int x6]) 0 (nt_lM hw (Nat.le_of_ble_eq_true rfl)) (nt_m0 hw) rfl (cMo_best hw er14) wd_898 wd_896 wd_897 wd_1105 wd_16 rfl hd_X9_best ⟨Nat.le_of_ble_eq_true rfl, Nat.le_of_ble_eq_true rfl⟩ ⟨Nat.le_refl 0, Nat.le_refl 0⟩ (Nat.le_of_ble_eq_true rfl) rfl dX9_drawn_86 ?_
      refine nt_istore X [(7, .int r14), (0, .ref (nt_a w 0)), (2, .int x2), (3, .int x3), (4, .int x4), (5, .int x5), (6, .int x6)] dX9_drawn_89 (by decide) rfl ?_
      refine nt_iload X dX9_drawn_91 0 rfl ?_
      refine nt_iconst X dX9_drawn_93 nt_ci_m1 ?_
      obtain ⟨ht, hf⟩ := nt_R_if h
      refine nt_icmp_eq X 117 dX9_drawn_94 (by decide) (fun q16 => ?_) (fun q16 => ?_)
      · have h := ht q16
        obtain ⟨v17, ev17, h⟩ := nt_R_lt h
        refine nt_iinc X v17 [(6, .int v17), (7, .int r14), (0, .ref (nt_a w 0)), (2, .int x2), (3, .int x3), (4, .int x4), (5, .int x5)] dX9_drawn_117 6 rfl (by rw [nt_ci_1]; exact ev17) (by decide) rfl ?_
        refine nt_goto X 77 dX9_drawn_120 (by decide) ?_
        refine nt_sub [2, 3, 4, 5, 6, 0] rfl ?_
        have h := nt_R_some h
        exact hI x4 v17 g15 h
      · have h := hf q16
        refine nt_aload_n X dX9_drawn_97 rfl 1 rfl ?_
        refine nt_iload X dX9_drawn_98 6 rfl ?_
        refine nt_iload X dX9_drawn_100 0 rfl ?_
        refine nt_aload_n X dX9_drawn_102 rfl 1 rfl ?_
        refine nt_iload X dX9_drawn_103 6 rfl ?_
        refine nt_iload X dX9_drawn_105 0 rfl ?_
        obtain ⟨r18, g19, er18, h⟩ := nt_R_b2 h
        refine nt_cVi X (As := [.int x6, .int r14]) 0 (nt_lM hw (Nat.le_of_ble_eq_true rfl)) (nt_m0 hw) rfl (cMo_teller hw er18) wd_861 wd_859 wd_860 wd_1099 wd_16 rfl hd_X9_teller ⟨Nat.le_of_ble_eq_true rfl, Nat.le_of_ble_eq_true rfl⟩ ⟨Nat.le_refl 0, Nat.le_refl 0⟩ (Nat.le_of_ble_eq_true rfl) rfl dX9_drawn_107 ?_
        obtain ⟨r20, g21, er20, h⟩ := nt_R_b2 h
        refine nt_cVi X (As := [.int x6, .int r14, .int r18]) 0 (nt_lM hw (Nat.le_of_ble_eq_true rfl)) (nt_m0 hw) rfl (cMo_tellIn hw er20) wd_905 wd_903 wd_904 wd_1106 wd_16 rfl hd_X9_tellIn ⟨Nat.le_of_ble_eq_true rfl, Nat.le_of_ble_eq_true rfl⟩ ⟨Nat.le_refl 0, Nat.le_refl 0⟩ (Nat.le_of_ble_eq_true rfl) rfl dX9_drawn_110 ?_
        refine nt_pop X dX9_drawn_113 rfl ?_
        obtain ⟨v22, ev22, h⟩ := nt_R_lt h
        refine nt_iinc X v22 [(4, .int v22), (7, .int r14), (0, .ref (nt_a w 0)), (2, .int x2), (3, .int x3), (5, .int x5), (6, .int x6)] dX9_drawn_114 4 rfl (by rw [nt_ci_1]; exact ev22) (by decide) rfl ?_
        obtain ⟨v23, ev23, h⟩ := nt_R_lt h
        refine nt_iinc X v23 [(6, .int v23), (4, .int v22), (7, .int r14), (0, .ref (nt_a w 0)), (2, .int x2), (3, .int x3), (5, .int x5)] dX9_drawn_117 6 rfl (by rw [nt_ci_1]; exact ev23) (by decide) rfl ?_
        refine nt_goto X 77 dX9_drawn_120 (by decide) ?_
        refine nt_sub [3, 4, 5, 1, 6, 0] rfl ?_
        have h := nt_R_some h
        exact hI v22 v23 g21 h
def bMo_drawn_27 (x2 : Int32) (x3 : Int32) (x4 : Int32) (x5 : Int32) (g : nt_T) : Option ((Int32 × Int32 × Int32 × nt_T) ⊕ ((Int32 × nt_T))) :=
  (if x2 ≤ x5 then
    (some (.inr (x4, g)))
  else
    ((nt_b1 (nt_it (fun z => bMo_drawn_36 x2 x4 x5 z.1 z.2.1 z.2.2) nt_fu (x3, (0 : Int32), g)) fun z30 => match z30 with
  | (v11, g12) => (nt_b1 (nt_it (fun z => bMo_drawn_77 x2 v11 x5 z.1 z.2.1 z.2.2) nt_fu (x4, (0 : Int32), g12)) fun z29 => match z29 with
  | (v24, g25) => nt_b2 (fMo_pass g25) fun r26 g27 => nt_lt (x5 + (1 : Int32)) fun v28 => some (.inl (v11, v24, v28, g27))))))
set_option maxRecDepth 100000 in
set_option maxHeartbeats 4000000 in
theorem tbMo_drawn_27 {p : Program} {l : Launch} {e : Env} {s : State} {m : MethodId} {args : Array Value} {below : List Frame} {meth : Method} {c : Code} {w : nt_w} {A : Nat → Prop} (hw : nt_isM w) {Q : State → Prop} (X : nt_X cX9_drawn 8 RX9 (some .int) w A p s m args meth c) (x2 : Int32)  {Qx : ((Int32 × nt_T)) → Prop} (hE0 : ∀ (y4 : Int32) (gy : nt_T), Qx (y4, gy) → nt_G p l e (nt_rm 83) s m args below meth c w A 0 0 Q 8 134 [(0, .ref (nt_a w 0)), (2, .int x2), (4, .int y4)] [] gy) : ∀ (n : Nat) (x3 : Int32) (x4 : Int32) (x5 : Int32) (g : nt_T), nt_R (nt_it (fun z => bMo_drawn_27 x2 z.1 z.2.1 z.2.2.1 z.2.2.2) n (x3, x4, x5, g)) Qx → nt_G p l e (nt_rm 83) s m args below meth c w A 0 0 Q 8 27 [(0, .ref (nt_a w 0)), (2, .int x2), (3, .int x3), (4, .int x4), (5, .int x5)] [] g := by
  intro n
  induction n with
  | zero =>
    intro x3 x4 x5 g h
    exact nt_R_none h
  | succ n ih =>
    intro x3 x4 x5 g h
    have h : nt_R (bMo_drawn_27 x2 x3 x4 x5 g) (nt_Qz (fun z => bMo_drawn_27 x2 z.1 z.2.1 z.2.2.1 z.2.2.2) n Qx) := nt_R_it h
    have hI : ∀ (y3 : Int32) (y4 : Int32) (y5 : Int32) (gy : nt_T), nt_Qz (fun z => bMo_drawn_27 x2 z.1 z.2.1 z.2.2.1 z.2.2.2) n Qx (.inl (y3, y4, y5, gy)) → nt_G p l e (nt_rm 83) s m args below meth c w A 0 0 Q 8 27 [(0, .ref (nt_a w 0)), (2, .int x2), (3, .int y3), (4, .int y4), (5, .int y5)] [] gy := fun y3 y4 y5 gy q => ih y3 y4 y5 gy q
    have hE0 : ∀ (y4 : Int32) (gy : nt_T), nt_Qz (fun z => bMo_drawn_27 x2 z.1 z.2.1 z.2.2.1 z.2.2.2) n Qx (.inr (y4, gy)) → nt_G p l e (nt_rm 83) s m args below meth c w A 0 0 Q 8 134 [(0, .ref (nt_a w 0)), (2, .int x2), (4, .int y4)] [] gy := hE0
    generalize nt_Qz (fun z => bMo_drawn_27 x2 z.1 z.2.1 z.2.2.1 z.2.2.2) n Qx = Qz at h hI hE0
    unfold bMo_drawn_27 at h
    refine nt_iload X dX9_drawn_27 4 rfl ?_
    refine nt_iload_n X dX9_drawn_29 rfl 1 rfl ?_
    obtain ⟨ht, hf⟩ := nt_R_if h
    refine nt_icmp_ge X 134 dX9_drawn_30 (by decide) (fun q4 => ?_) (fun q4 => ?_)
    · have h := ht q4
      refine nt_sub [0, 1, 3] rfl ?_
      have h := nt_R_some h
      exact hE0 x4 g h
    · have h := hf q4
      refine nt_iconst X dX9_drawn_33 nt_ci_0 ?_
      refine nt_istore X [(6, .int (0 : Int32)), (0, .ref (nt_a w 0)), (2, .int x2), (3, .int x3), (4, .int x4), (5, .int x5)] dX9_drawn_34 (by decide) rfl ?_
      obtain ⟨z30, hz30, h⟩ := nt_R_b1 h
      refine nt_sub [1, 2, 3, 4, 5, 0] rfl ?_
      refine tbMo_drawn_36 hw X x2 x4 x5 (Qx := fun z => z = z30) (fun v11 g12 hq => ?_) nt_fu x3 (0 : Int32) g ⟨_, hz30, rfl⟩
      subst hq
      refine nt_iconst X dX9_drawn_74 nt_ci_0 ?_
      refine nt_istore X [(6, .int (0 : Int32)), (0, .ref (nt_a w 0)), (2, .int x2), (3, .int v11), (4, .int x4), (5, .int x5)] dX9_drawn_75 (by decide) rfl ?_
      obtain ⟨z29, hz29, h⟩ := nt_R_b1 h
      refine nt_sub [1, 2, 3, 4, 5, 0] rfl ?_
      refine tbMo_drawn_77 hw X x2 v11 x5 (Qx := fun z => z = z29) (fun v24 g25 hq => ?_) nt_fu x4 (0 : Int32) g12 ⟨_, hz29, rfl⟩
      subst hq
      refine nt_aload_n X dX9_drawn_123 rfl 0 rfl ?_
      obtain ⟨r26, g27, er26, h⟩ := nt_R_b2 h
      refine nt_cVi X (As := []) 0 (nt_lM hw (Nat.le_of_ble_eq_true rfl)) (nt_m0 hw) rfl (cMo_pass hw er26) wd_909 wd_968 wd_907 wd_908 wd_16 rfl hd_X9_pass ⟨Nat.le_of_ble_eq_true rfl, Nat.le_of_ble_eq_true rfl⟩ ⟨Nat.le_refl 0, Nat.le_refl 0⟩ (Nat.le_of_ble_eq_true rfl) rfl dX9_drawn_124 ?_
      refine nt_pop X dX9_drawn_127 rfl ?_
      obtain ⟨v28, ev28, h⟩ := nt_R_lt h
      refine nt_iinc X v28 [(5, .int v28), (0, .ref (nt_a w 0)), (2, .int x2), (3, .int v11), (4, .int v24)] dX9_drawn_128 4 rfl (by rw [nt_ci_1]; exact ev28) (by decide) rfl ?_
      refine nt_goto X 27 dX9_drawn_131 (by decide) ?_
      refine nt_sub [1, 2, 3, 4, 0] rfl ?_
      have h := nt_R_some h
      exact hI v11 v24 v28 g27 h
def fMo_drawn (x1 : Int32) (x2 : Int32) (g : nt_T) : Option (Int32 × nt_T) :=
  nt_b1 (fMo_in (Int32.toInt64 x2) (0 : Int64) (40 : Int64) g) fun r1 => (if r1 = 0 then
    (some ((-2 : Int32), g))
  else
    (nt_b1 (fMo_laysAside g) fun g3 => (nt_b1 (nt_it (fun z => bMo_drawn_27 x2 z.1 z.2.1 z.2.2.1 z.2.2.2) nt_fu (x1, (0 : Int32), (0 : Int32), g3)) fun z34 => match z34 with
  | (v31, g32) => nt_b1 (fMo_laysBack g32) fun g33 => some (v31, g33))))
set_option maxRecDepth 100000 in
set_option maxHeartbeats 4000000 in
theorem cMo_drawn {l : Launch} {w : nt_w} (hw : nt_isM w) {x1 : Int32} {x2 : Int32} {g : nt_T} {r : Int32} {g2 : nt_T} (hf : fMo_drawn x1 x2 g = some (r, g2)) : nt_Mi l w yX9_drawn cX9_drawn 8 (some .int) 83 [.ref (nt_a w 0), .int x1, .int x2] g r g2 := by
  refine nt_Mi_of (by decide) (Nat.le_of_ble_eq_true rfl) (fun p e s m args below meth c A X => ?_)
  have X : nt_X cX9_drawn 8 RX9 (some .int) w A p s m args meth c := X
  have h : nt_R (fMo_drawn x1 x2 g) (fun z => z = (r, g2)) := ⟨_, hf, rfl⟩
  unfold fMo_drawn at h
  show nt_G p l e (nt_rm 83) s m args below meth c w A 0 0 (nt_Qi w A below args s r g2) 8 0 [(0, .ref (nt_a w 0)), (1, .int x1), (2, .int x2)] [] g
  refine nt_iload_n X dX9_drawn_0 rfl 2 rfl ?_
  refine nt_i2l X dX9_drawn_1 rfl ?_
  refine nt_lconst X dX9_drawn_2 nt_cl_0 ?_
  refine nt_ldc2 X wd_966 dX9_drawn_3 ?_
  obtain ⟨r1, er1, h⟩ := nt_R_b1 h
  refine nt_cSi X (As := [.long (Int32.toInt64 x2), .long (0 : Int64), .long (40 : Int64)]) (cMo_in hw er1) wd_732 wd_730 wd_731 wd_16 hd_X9_in ⟨Nat.le_of_ble_eq_true rfl, Nat.le_of_ble_eq_true rfl⟩ ⟨Nat.le_refl 0, Nat.le_refl 0⟩ (Nat.le_of_ble_eq_true rfl) rfl dX9_drawn_6 ?_
  obtain ⟨ht, hf⟩ := nt_R_if h
  refine nt_if_ne X 15 dX9_drawn_9 (by decide) (fun q2 => ?_) (fun q2 => ?_)
  · have h := hf q2
    refine nt_aload_n X dX9_drawn_15 rfl 0 rfl ?_
    obtain ⟨g3, eg3, h⟩ := nt_R_b1 h
    refine nt_cVv X (As := []) 0 (nt_lM hw (Nat.le_of_ble_eq_true rfl)) (nt_m0 hw) rfl (cMo_laysAside hw eg3) wd_916 wd_914 wd_915 wd_1107 wd_16 rfl hd_X9_laysAside ⟨Nat.le_of_ble_eq_true rfl, Nat.le_of_ble_eq_true rfl⟩ ⟨Nat.le_refl 0, Nat.le_refl 0⟩ (Nat.le_of_ble_eq_true rfl) rfl dX9_drawn_16 ?_
    refine nt_iload_n X dX9_drawn_19 rfl 1 rfl ?_
    refine nt_istore_n X [(3, .int x1), (0, .ref (nt_a w 0)), (1, .int x1), (2, .int x2)] dX9_drawn_20 rfl (by decide) rfl ?_
    refine nt_iconst X dX9_drawn_21 nt_ci_0 ?_
    refine nt_istore X [(4, .int (0 : Int32)), (3, .int x1), (0, .ref (nt_a w 0)), (1, .int x1), (2, .int x2)] dX9_drawn_22 (by decide) rfl ?_
    refine nt_iconst X dX9_drawn_24 nt_ci_0 ?_
    refine nt_istore X [(5, .int (0 : Int32)), (4, .int (0 : Int32)), (3, .int x1), (0, .ref (nt_a w 0)), (1, .int x1), (2, .int x2)] dX9_drawn_25 (by decide) rfl ?_
    obtain ⟨z34, hz34, h⟩ := nt_R_b1 h
    refine nt_sub [3, 5, 2, 1, 0] rfl ?_
    refine tbMo_drawn_27 hw X x2 (Qx := fun z => z = z34) (fun v31 g32 hq => ?_) nt_fu x1 (0 : Int32) (0 : Int32) g3 ⟨_, hz34, rfl⟩
    subst hq
    refine nt_aload_n X dX9_drawn_134 rfl 0 rfl ?_
    obtain ⟨g33, eg33, h⟩ := nt_R_b1 h
    refine nt_cVv X (As := []) 0 (nt_lM hw (Nat.le_of_ble_eq_true rfl)) (nt_m0 hw) rfl (cMo_laysBack hw eg33) wd_922 wd_920 wd_921 wd_1109 wd_16 rfl hd_X9_laysBack ⟨Nat.le_of_ble_eq_true rfl, Nat.le_of_ble_eq_true rfl⟩ ⟨Nat.le_refl 0, Nat.le_refl 0⟩ (Nat.le_of_ble_eq_true rfl) rfl dX9_drawn_135 ?_
    refine nt_iload X dX9_drawn_138 2 rfl ?_
    have h := nt_R_some h
    exact nt_iret X dX9_drawn_140 h
  · have h := ht q2
    refine nt_bipush X dX9_drawn_12 nt_cb_m2 ?_
    have h := nt_R_some h
    exact nt_iret X dX9_drawn_14 h
