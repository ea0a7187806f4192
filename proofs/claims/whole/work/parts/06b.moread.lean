def jMo_atom_157 (F_atom : nt_T → Option (Int32 × nt_T)) (F_either : nt_T → Option (Int32 × nt_T)) (x1 : Int32) (g : nt_T) : Option (Int32 × nt_T) :=
  nt_b1 (fMo_fail g) fun g7 => some (x1, g7)
set_option maxRecDepth 100000 in
set_option maxHeartbeats 4000000 in
theorem tjMo_atom_157 {p : Program} {l : Launch} {e : Env} {s : State} {m : MethodId} {args : Array Value} {below : List Frame} {meth : Method} {c : Code} {w : nt_w} {A : Nat → Prop} {nd : Nat} {F_atom : nt_T → Option (Int32 × nt_T)} {F_either : nt_T → Option (Int32 × nt_T)} (hw : nt_isM w) (HF_atom : ∀ {gg : nt_T} {r : Int32} {gg2 : nt_T}, F_atom gg = some (r, gg2) → nt_Mi l w yX9_atom cX9_atom 2 (some .int) (9 + nd) [.ref (nt_a w 0)] gg r gg2) (HF_either : ∀ {gg : nt_T} {r : Int32} {gg2 : nt_T}, F_either gg = some (r, gg2) → nt_Mi l w yX9_either cX9_either 3 (some .int) (9 + nd) [.ref (nt_a w 0)] gg r gg2) {r : Int32} {g2 : nt_T}  (X : nt_X cX9_atom 2 RX9 (some .int) w A p s m args meth c) (x1 : Int32) (g : nt_T) (h : nt_R (jMo_atom_157 F_atom F_either x1 g) (fun z => z = (r, g2))) : nt_G p l e (nt_rm (9 + (nd + 1))) s m args below meth c w A 0 0 (nt_Qi w A below args s r g2) 2 157 [(0, .ref (nt_a w 0)), (1, .int x1)] [] g := by
  unfold jMo_atom_157 at h
  refine nt_aload_n X dX9_atom_157 rfl 0 rfl ?_
  obtain ⟨g7, eg7, h⟩ := nt_R_b1 h
  refine nt_cVv X (As := []) 0 (nt_lM hw (Nat.le_of_ble_eq_true rfl)) (nt_m0 hw) rfl (cMo_fail hw eg7) wd_815 wd_813 wd_814 wd_1088 wd_16 rfl hd_X9_fail (nt_room (by omega) (by decide)) ⟨Nat.le_refl 0, Nat.le_refl 0⟩ (Nat.le_of_ble_eq_true rfl) rfl dX9_atom_158 ?_
  refine nt_iload_n X dX9_atom_161 rfl 1 rfl ?_
  have h := nt_R_some h
  exact nt_iret X dX9_atom_162 h
def jMo_atom_123 (F_atom : nt_T → Option (Int32 × nt_T)) (F_either : nt_T → Option (Int32 × nt_T)) (x1 : Int32) (g : nt_T) : Option (Int32 × nt_T) :=
  (if (g 0 32) = 0 then
    ((if (g 0 28) = (1 : Int32) then
    (nt_b2 (fMo_name g) fun r9 g10 => (if (g10 0 32) = 0 then
    (nt_b1 (fMo_next g10) fun g12 => some (r9, g12))
  else
    (some (r9, g10))))
  else
    (jMo_atom_157 F_atom F_either x1 g)))
  else
    (jMo_atom_157 F_atom F_either x1 g))
set_option maxRecDepth 100000 in
set_option maxHeartbeats 4000000 in
theorem tjMo_atom_123 {p : Program} {l : Launch} {e : Env} {s : State} {m : MethodId} {args : Array Value} {below : List Frame} {meth : Method} {c : Code} {w : nt_w} {A : Nat → Prop} {nd : Nat} {F_atom : nt_T → Option (Int32 × nt_T)} {F_either : nt_T → Option (Int32 × nt_T)} (hw : nt_isM w) (HF_atom : ∀ {gg : nt_T} {r : Int32} {gg2 : nt_T}, F_atom gg = some (r, gg2) → nt_Mi l w yX9_atom cX9_atom 2 (some .int) (9 + nd) [.ref (nt_a w 0)] gg r gg2) (HF_either : ∀ {gg : nt_T} {r : Int32} {gg2 : nt_T}, F_either gg = some (r, gg2) → nt_Mi l w yX9_either cX9_either 3 (some .int) (9 + nd) [.ref (nt_a w 0)] gg r gg2) {r : Int32} {g2 : nt_T}  (X : nt_X cX9_atom 2 RX9 (some .int) w A p s m args meth c) (x1 : Int32) (g : nt_T) (h : nt_R (jMo_atom_123 F_atom F_either x1 g) (fun z => z = (r, g2))) : nt_G p l e (nt_rm (9 + (nd + 1))) s m args below meth c w A 0 0 (nt_Qi w A below args s r g2) 2 123 [(0, .ref (nt_a w 0)), (1, .int x1)] [] g := by
  unfold jMo_atom_123 at h
  refine nt_aload_n X dX9_atom_123 rfl 0 rfl ?_
  refine nt_get X 0 inX9 (nt_lM hw (Nat.le_of_ble_eq_true rfl)) (nt_m0 hw) rfl (j := 32) (by decide) wd_654 (v := .int (g 0 32)) rfl dX9_atom_124 ?_
  obtain ⟨ht, hf⟩ := nt_R_if h
  refine nt_if_ne X 157 dX9_atom_127 (by decide) (fun q6 => ?_) (fun q6 => ?_)
  · have h := hf q6
    exact tjMo_atom_157 hw HF_atom HF_either X x1 g h
  · have h := ht q6
    refine nt_aload_n X dX9_atom_130 rfl 0 rfl ?_
    refine nt_get X 0 inX9 (nt_lM hw (Nat.le_of_ble_eq_true rfl)) (nt_m0 hw) rfl (j := 28) (by decide) wd_650 (v := .int (g 0 28)) rfl dX9_atom_131 ?_
    refine nt_iconst X dX9_atom_134 nt_ci_1 ?_
    obtain ⟨ht, hf⟩ := nt_R_if h
    refine nt_icmp_ne X 157 dX9_atom_135 (by decide) (fun q8 => ?_) (fun q8 => ?_)
    · have h := hf q8
      exact tjMo_atom_157 hw HF_atom HF_either X x1 g h
    · have h := ht q8
      refine nt_aload_n X dX9_atom_138 rfl 0 rfl ?_
      obtain ⟨r9, g10, er9, h⟩ := nt_R_b2 h
      refine nt_cVi X (As := []) 0 (nt_lM hw (Nat.le_of_ble_eq_true rfl)) (nt_m0 hw) rfl (cMo_name hw er9) wd_842 wd_840 wd_841 wd_1097 wd_16 rfl hd_X9_name (nt_room (by omega) (by decide)) ⟨Nat.le_refl 0, Nat.le_refl 0⟩ (Nat.le_of_ble_eq_true rfl) rfl dX9_atom_139 ?_
      refine nt_istore_n X [(1, .int r9), (0, .ref (nt_a w 0))] dX9_atom_142 rfl (by decide) rfl ?_
      refine nt_aload_n X dX9_atom_143 rfl 1 rfl ?_
      refine nt_get X 0 inX9 (nt_lM hw (Nat.le_of_ble_eq_true rfl)) (nt_m0 hw) rfl (j := 32) (by decide) wd_654 (v := .int (g10 0 32)) rfl dX9_atom_144 ?_
      obtain ⟨ht, hf⟩ := nt_R_if h
      refine nt_if_ne X 161 dX9_atom_147 (by decide) (fun q11 => ?_) (fun q11 => ?_)
      · have h := hf q11
        refine nt_iload_n X dX9_atom_161 rfl 0 rfl ?_
        have h := nt_R_some h
        exact nt_iret X dX9_atom_162 h
      · have h := ht q11
        refine nt_aload_n X dX9_atom_150 rfl 1 rfl ?_
        obtain ⟨g12, eg12, h⟩ := nt_R_b1 h
        refine nt_cVv X (As := []) 0 (nt_lM hw (Nat.le_of_ble_eq_true rfl)) (nt_m0 hw) rfl (cMo_next hw eg12) wd_795 wd_793 wd_794 wd_1083 wd_16 rfl hd_X9_next (nt_room (by omega) (by decide)) ⟨Nat.le_refl 0, Nat.le_refl 0⟩ (Nat.le_of_ble_eq_true rfl) rfl dX9_atom_151 ?_
        refine nt_goto X 161 dX9_atom_154 (by decide) ?_
        refine nt_iload_n X dX9_atom_161 rfl 0 rfl ?_
        have h := nt_R_some h
        exact nt_iret X dX9_atom_162 h
def jMo_atom_71 (F_atom : nt_T → Option (Int32 × nt_T)) (F_either : nt_T → Option (Int32 × nt_T)) (x1 : Int32) (g : nt_T) : Option (Int32 × nt_T) :=
  nt_lt (nt_st g 0 31 ((g 0 31) - (1 : Int32))) fun g23 => (if (g23 0 32) = 0 then
    (nt_b1 (fMo_next g23) fun g25 => some (x1, g25))
  else
    (some (x1, g23)))
set_option maxRecDepth 100000 in
set_option maxHeartbeats 4000000 in
theorem tjMo_atom_71 {p : Program} {l : Launch} {e : Env} {s : State} {m : MethodId} {args : Array Value} {below : List Frame} {meth : Method} {c : Code} {w : nt_w} {A : Nat → Prop} {nd : Nat} {F_atom : nt_T → Option (Int32 × nt_T)} {F_either : nt_T → Option (Int32 × nt_T)} (hw : nt_isM w) (HF_atom : ∀ {gg : nt_T} {r : Int32} {gg2 : nt_T}, F_atom gg = some (r, gg2) → nt_Mi l w yX9_atom cX9_atom 2 (some .int) (9 + nd) [.ref (nt_a w 0)] gg r gg2) (HF_either : ∀ {gg : nt_T} {r : Int32} {gg2 : nt_T}, F_either gg = some (r, gg2) → nt_Mi l w yX9_either cX9_either 3 (some .int) (9 + nd) [.ref (nt_a w 0)] gg r gg2) {r : Int32} {g2 : nt_T}  (X : nt_X cX9_atom 2 RX9 (some .int) w A p s m args meth c) (x1 : Int32) (g : nt_T) (h : nt_R (jMo_atom_71 F_atom F_either x1 g) (fun z => z = (r, g2))) : nt_G p l e (nt_rm (9 + (nd + 1))) s m args below meth c w A 0 0 (nt_Qi w A below args s r g2) 2 71 [(0, .ref (nt_a w 0)), (1, .int x1)] [] g := by
  unfold jMo_atom_71 at h
  refine nt_aload_n X dX9_atom_71 rfl 0 rfl ?_
  refine nt_dup X dX9_atom_72 rfl ?_
  refine nt_get X 0 inX9 (nt_lM hw (Nat.le_of_ble_eq_true rfl)) (nt_m0 hw) rfl (j := 31) (by decide) wd_653 (v := .int (g 0 31)) rfl dX9_atom_73 ?_
  refine nt_iconst X dX9_atom_76 nt_ci_1 ?_
  refine nt_isub X dX9_atom_77 ?_
  refine nt_put X 0 inX9 (nt_lM hw (Nat.le_of_ble_eq_true rfl)) (nt_m0 hw) rfl (j := 31) (by decide) wd_653 tyX9 tyX9_ok nmX9 rfl (ty := .int) rfl rfl rfl (fun _ => Nat.le_of_ble_eq_true rfl) (fun _ => rfl) dX9_atom_78 ?_
  obtain ⟨g23, eg23, h⟩ := nt_R_lt h
  refine nt_geq eg23 ?_
  refine nt_aload_n X dX9_atom_81 rfl 0 rfl ?_
  refine nt_get X 0 inX9 (nt_lM hw (Nat.le_of_ble_eq_true rfl)) (nt_m0 hw) rfl (j := 32) (by decide) wd_654 (v := .int (g23 0 32)) rfl dX9_atom_82 ?_
  obtain ⟨ht, hf⟩ := nt_R_if h
  refine nt_if_ne X 161 dX9_atom_85 (by decide) (fun q24 => ?_) (fun q24 => ?_)
  · have h := hf q24
    refine nt_iload_n X dX9_atom_161 rfl 1 rfl ?_
    have h := nt_R_some h
    exact nt_iret X dX9_atom_162 h
  · have h := ht q24
    refine nt_aload_n X dX9_atom_88 rfl 0 rfl ?_
    obtain ⟨g25, eg25, h⟩ := nt_R_b1 h
    refine nt_cVv X (As := []) 0 (nt_lM hw (Nat.le_of_ble_eq_true rfl)) (nt_m0 hw) rfl (cMo_next hw eg25) wd_795 wd_793 wd_794 wd_1083 wd_16 rfl hd_X9_next (nt_room (by omega) (by decide)) ⟨Nat.le_refl 0, Nat.le_refl 0⟩ (Nat.le_of_ble_eq_true rfl) rfl dX9_atom_89 ?_
    refine nt_goto X 161 dX9_atom_92 (by decide) ?_
    refine nt_iload_n X dX9_atom_161 rfl 1 rfl ?_
    have h := nt_R_some h
    exact nt_iret X dX9_atom_162 h
def FMo_atom (F_atom : nt_T → Option (Int32 × nt_T)) (F_either : nt_T → Option (Int32 × nt_T)) (g : nt_T) : Option (Int32 × nt_T) :=
  nt_b1 (fMo_isSign (45 : Int32) g) fun r1 => (if r1 = 0 then
    (nt_b1 (fMo_isSign (40 : Int32) g) fun r3 => (if r3 = 0 then
    ((if (g 0 32) = 0 then
    ((if (g 0 28) = (2 : Int32) then
    (nt_lt (Int64.toInt32 (nt_mk (g 0 130) (g 0 230))) fun v14 => nt_b1 (fMo_next g) fun g15 => some (v14, g15))
  else
    (jMo_atom_123 F_atom F_either (0 : Int32) g)))
  else
    (jMo_atom_123 F_atom F_either (0 : Int32) g)))
  else
    (nt_b2 (fMo_opens g) fun r16 g17 => (if r16 = 0 then
    (some ((0 : Int32), g17))
  else
    (nt_b2 (F_either g17) fun r19 g20 => nt_b1 (fMo_isSign (41 : Int32) g20) fun r21 => (if r21 = 0 then
    (nt_b1 (fMo_fail g20) fun g26 => jMo_atom_71 F_atom F_either r19 g26)
  else
    (jMo_atom_71 F_atom F_either r19 g20)))))))
  else
    (nt_b2 (fMo_opens g) fun r27 g28 => (if r27 = 0 then
    (some ((0 : Int32), g28))
  else
    (nt_b2 (F_atom g28) fun r30 g31 => nt_lt (-r30) fun v32 => nt_lt (nt_st g31 0 31 ((g31 0 31) - (1 : Int32))) fun g33 => some (v32, g33)))))
set_option maxRecDepth 100000 in
set_option maxHeartbeats 4000000 in
theorem CMo_atom {l : Launch} {w : nt_w} (hw : nt_isM w) {nd : Nat} {F_atom : nt_T → Option (Int32 × nt_T)} {F_either : nt_T → Option (Int32 × nt_T)} (HF_atom : ∀ {gg : nt_T} {r : Int32} {gg2 : nt_T}, F_atom gg = some (r, gg2) → nt_Mi l w yX9_atom cX9_atom 2 (some .int) (9 + nd) [.ref (nt_a w 0)] gg r gg2) (HF_either : ∀ {gg : nt_T} {r : Int32} {gg2 : nt_T}, F_either gg = some (r, gg2) → nt_Mi l w yX9_either cX9_either 3 (some .int) (9 + nd) [.ref (nt_a w 0)] gg r gg2) {g : nt_T} {r : Int32} {g2 : nt_T} (hf : FMo_atom F_atom F_either g = some (r, g2)) : nt_Mi l w yX9_atom cX9_atom 2 (some .int) (9 + (nd + 1)) [.ref (nt_a w 0)] g r g2 := by
  refine nt_Mi_of (by decide) (Nat.le_of_ble_eq_true rfl) (fun p e s m args below meth c A X => ?_)
  have X : nt_X cX9_atom 2 RX9 (some .int) w A p s m args meth c := X
  have h : nt_R (FMo_atom F_atom F_either g) (fun z => z = (r, g2)) := ⟨_, hf, rfl⟩
  unfold FMo_atom at h
  show nt_G p l e (nt_rm (9 + (nd + 1))) s m args below meth c w A 0 0 (nt_Qi w A below args s r g2) 2 0 [(0, .ref (nt_a w 0))] [] g
  refine nt_iconst X dX9_atom_0 nt_ci_0 ?_
  refine nt_istore_n X [(1, .int (0 : Int32)), (0, .ref (nt_a w 0))] dX9_atom_1 rfl (by decide) rfl ?_
  refine nt_aload_n X dX9_atom_2 rfl 1 rfl ?_
  refine nt_bipush X dX9_atom_3 nt_cb_45 ?_
  obtain ⟨r1, er1, h⟩ := nt_R_b1 h
  refine nt_cVi X (As := [.int (45 : Int32)]) 0 (nt_lM hw (Nat.le_of_ble_eq_true rfl)) (nt_m0 hw) rfl (cMo_isSign hw er1) wd_839 wd_837 wd_838 wd_1096 wd_16 rfl hd_X9_isSign (nt_room (by omega) (by decide)) ⟨Nat.le_refl 0, Nat.le_refl 0⟩ (Nat.le_of_ble_eq_true rfl) rfl dX9_atom_5 ?_
  obtain ⟨ht, hf⟩ := nt_R_if h
  refine nt_if_eq X 37 dX9_atom_8 (by decide) (fun q2 => ?_) (fun q2 => ?_)
  · have h := ht q2
    refine nt_aload_n X dX9_atom_37 rfl 1 rfl ?_
    refine nt_bipush X dX9_atom_38 nt_cb_40 ?_
    obtain ⟨r3, er3, h⟩ := nt_R_b1 h
    refine nt_cVi X (As := [.int (40 : Int32)]) 0 (nt_lM hw (Nat.le_of_ble_eq_true rfl)) (nt_m0 hw) rfl (cMo_isSign hw er3) wd_839 wd_837 wd_838 wd_1096 wd_16 rfl hd_X9_isSign (nt_room (by omega) (by decide)) ⟨Nat.le_refl 0, Nat.le_refl 0⟩ (Nat.le_of_ble_eq_true rfl) rfl dX9_atom_40 ?_
    obtain ⟨ht, hf⟩ := nt_R_if h
    refine nt_if_eq X 95 dX9_atom_43 (by decide) (fun q4 => ?_) (fun q4 => ?_)
    · have h := ht q4
      refine nt_aload_n X dX9_atom_95 rfl 1 rfl ?_
      refine nt_get X 0 inX9 (nt_lM hw (Nat.le_of_ble_eq_true rfl)) (nt_m0 hw) rfl (j := 32) (by decide) wd_654 (v := .int (g 0 32)) rfl dX9_atom_96 ?_
      obtain ⟨ht, hf⟩ := nt_R_if h
      refine nt_if_ne X 123 dX9_atom_99 (by decide) (fun q5 => ?_) (fun q5 => ?_)
      · have h := hf q5
        refine nt_sub [1, 0] rfl ?_
        exact tjMo_atom_123 hw HF_atom HF_either X (0 : Int32) g h
      · have h := ht q5
        refine nt_aload_n X dX9_atom_102 rfl 1 rfl ?_
        refine nt_get X 0 inX9 (nt_lM hw (Nat.le_of_ble_eq_true rfl)) (nt_m0 hw) rfl (j := 28) (by decide) wd_650 (v := .int (g 0 28)) rfl dX9_atom_103 ?_
        refine nt_iconst X dX9_atom_106 nt_ci_2 ?_
        obtain ⟨ht, hf⟩ := nt_R_if h
        refine nt_icmp_ne X 123 dX9_atom_107 (by decide) (fun q13 => ?_) (fun q13 => ?_)
        · have h := hf q13
          refine nt_sub [1, 0] rfl ?_
          exact tjMo_atom_123 hw HF_atom HF_either X (0 : Int32) g h
        · have h := ht q13
          refine nt_aload_n X dX9_atom_110 rfl 1 rfl ?_
          refine nt_get X 0 inX9 (nt_lM hw (Nat.le_of_ble_eq_true rfl)) (nt_m0 hw) rfl (j := 30) (by decide) wd_652 (v := .long (nt_mk (g 0 130) (g 0 230))) rfl dX9_atom_111 ?_
          refine nt_l2i X dX9_atom_114 rfl ?_
          obtain ⟨v14, ev14, h⟩ := nt_R_lt h
          refine nt_topi ev14 ?_
          refine nt_istore_n X [(1, .int v14), (0, .ref (nt_a w 0))] dX9_atom_115 rfl (by decide) rfl ?_
          refine nt_aload_n X dX9_atom_116 rfl 1 rfl ?_
          obtain ⟨g15, eg15, h⟩ := nt_R_b1 h
          refine nt_cVv X (As := []) 0 (nt_lM hw (Nat.le_of_ble_eq_true rfl)) (nt_m0 hw) rfl (cMo_next hw eg15) wd_795 wd_793 wd_794 wd_1083 wd_16 rfl hd_X9_next (nt_room (by omega) (by decide)) ⟨Nat.le_refl 0, Nat.le_refl 0⟩ (Nat.le_of_ble_eq_true rfl) rfl dX9_atom_117 ?_
          refine nt_goto X 161 dX9_atom_120 (by decide) ?_
          refine nt_iload_n X dX9_atom_161 rfl 0 rfl ?_
          have h := nt_R_some h
          exact nt_iret X dX9_atom_162 h
    · have h := hf q4
      refine nt_aload_n X dX9_atom_46 rfl 1 rfl ?_
      obtain ⟨r16, g17, er16, h⟩ := nt_R_b2 h
      refine nt_cVi X (As := []) 0 (nt_lM hw (Nat.le_of_ble_eq_true rfl)) (nt_m0 hw) rfl (cMo_opens hw er16) wd_827 wd_825 wd_826 wd_1092 wd_16 rfl hd_X9_opens (nt_room (by omega) (by decide)) ⟨Nat.le_refl 0, Nat.le_refl 0⟩ (Nat.le_of_ble_eq_true rfl) rfl dX9_atom_47 ?_
      obtain ⟨ht, hf⟩ := nt_R_if h
      refine nt_if_eq X 161 dX9_atom_50 (by decide) (fun q18 => ?_) (fun q18 => ?_)
      · have h := ht q18
        refine nt_iload_n X dX9_atom_161 rfl 0 rfl ?_
        have h := nt_R_some h
        exact nt_iret X dX9_atom_162 h
      · have h := hf q18
        refine nt_aload_n X dX9_atom_53 rfl 1 rfl ?_
        obtain ⟨r19, g20, er19, h⟩ := nt_R_b2 h
        refine nt_cVi X (As := []) 0 (nt_lM hw (Nat.le_of_ble_eq_true rfl)) (nt_m0 hw) rfl (HF_either er19) wd_818 wd_816 wd_817 wd_1089 wd_16 rfl hd_X9_either (nt_room (by omega) (by decide)) ⟨Nat.le_refl 0, Nat.le_refl 0⟩ (Nat.le_of_ble_eq_true rfl) rfl dX9_atom_54 ?_
        refine nt_istore_n X [(1, .int r19), (0, .ref (nt_a w 0))] dX9_atom_57 rfl (by decide) rfl ?_
        refine nt_aload_n X dX9_atom_58 rfl 1 rfl ?_
        refine nt_bipush X dX9_atom_59 nt_cb_41 ?_
        obtain ⟨r21, er21, h⟩ := nt_R_b1 h
        refine nt_cVi X (As := [.int (41 : Int32)]) 0 (nt_lM hw (Nat.le_of_ble_eq_true rfl)) (nt_m0 hw) rfl (cMo_isSign hw er21) wd_839 wd_837 wd_838 wd_1096 wd_16 rfl hd_X9_isSign (nt_room (by omega) (by decide)) ⟨Nat.le_refl 0, Nat.le_refl 0⟩ (Nat.le_of_ble_eq_true rfl) rfl dX9_atom_61 ?_
        obtain ⟨ht, hf⟩ := nt_R_if h
        refine nt_if_ne X 71 dX9_atom_64 (by decide) (fun q22 => ?_) (fun q22 => ?_)
        · have h := hf q22
          refine nt_sub [1, 0] rfl ?_
          exact tjMo_atom_71 hw HF_atom HF_either X r19 g20 h
        · have h := ht q22
          refine nt_aload_n X dX9_atom_67 rfl 1 rfl ?_
          obtain ⟨g26, eg26, h⟩ := nt_R_b1 h
          refine nt_cVv X (As := []) 0 (nt_lM hw (Nat.le_of_ble_eq_true rfl)) (nt_m0 hw) rfl (cMo_fail hw eg26) wd_815 wd_813 wd_814 wd_1088 wd_16 rfl hd_X9_fail (nt_room (by omega) (by decide)) ⟨Nat.le_refl 0, Nat.le_refl 0⟩ (Nat.le_of_ble_eq_true rfl) rfl dX9_atom_68 ?_
          refine nt_sub [1, 0] rfl ?_
          exact tjMo_atom_71 hw HF_atom HF_either X r19 g26 h
  · have h := hf q2
    refine nt_aload_n X dX9_atom_11 rfl 1 rfl ?_
    obtain ⟨r27, g28, er27, h⟩ := nt_R_b2 h
    refine nt_cVi X (As := []) 0 (nt_lM hw (Nat.le_of_ble_eq_true rfl)) (nt_m0 hw) rfl (cMo_opens hw er27) wd_827 wd_825 wd_826 wd_1092 wd_16 rfl hd_X9_opens (nt_room (by omega) (by decide)) ⟨Nat.le_refl 0, Nat.le_refl 0⟩ (Nat.le_of_ble_eq_true rfl) rfl dX9_atom_12 ?_
    obtain ⟨ht, hf⟩ := nt_R_if h
    refine nt_if_eq X 161 dX9_atom_15 (by decide) (fun q29 => ?_) (fun q29 => ?_)
    · have h := ht q29
      refine nt_iload_n X dX9_atom_161 rfl 0 rfl ?_
      have h := nt_R_some h
      exact nt_iret X dX9_atom_162 h
    · have h := hf q29
      refine nt_aload_n X dX9_atom_18 rfl 1 rfl ?_
      obtain ⟨r30, g31, er30, h⟩ := nt_R_b2 h
      refine nt_cVi X (As := []) 0 (nt_lM hw (Nat.le_of_ble_eq_true rfl)) (nt_m0 hw) rfl (HF_atom er30) wd_836 wd_834 wd_835 wd_1095 wd_16 rfl hd_X9_atom (nt_room (by omega) (by decide)) ⟨Nat.le_refl 0, Nat.le_refl 0⟩ (Nat.le_of_ble_eq_true rfl) rfl dX9_atom_19 ?_
      refine nt_ineg X dX9_atom_22 ?_
      obtain ⟨v32, ev32, h⟩ := nt_R_lt h
      refine nt_topi ev32 ?_
      refine nt_istore_n X [(1, .int v32), (0, .ref (nt_a w 0))] dX9_atom_23 rfl (by decide) rfl ?_
      refine nt_aload_n X dX9_atom_24 rfl 1 rfl ?_
      refine nt_dup X dX9_atom_25 rfl ?_
      refine nt_get X 0 inX9 (nt_lM hw (Nat.le_of_ble_eq_true rfl)) (nt_m0 hw) rfl (j := 31) (by decide) wd_653 (v := .int (g31 0 31)) rfl dX9_atom_26 ?_
      refine nt_iconst X dX9_atom_29 nt_ci_1 ?_
      refine nt_isub X dX9_atom_30 ?_
      refine nt_put X 0 inX9 (nt_lM hw (Nat.le_of_ble_eq_true rfl)) (nt_m0 hw) rfl (j := 31) (by decide) wd_653 tyX9 tyX9_ok nmX9 rfl (ty := .int) rfl rfl rfl (fun _ => Nat.le_of_ble_eq_true rfl) (fun _ => rfl) dX9_atom_31 ?_
      obtain ⟨g33, eg33, h⟩ := nt_R_lt h
      refine nt_geq eg33 ?_
      refine nt_goto X 161 dX9_atom_34 (by decide) ?_
      refine nt_iload_n X dX9_atom_161 rfl 0 rfl ?_
      have h := nt_R_some h
      exact nt_iret X dX9_atom_162 h
def bMo_term_5 (F_atom : nt_T → Option (Int32 × nt_T)) (x1 : Int32) (g : nt_T) : Option ((Int32 × nt_T) ⊕ ((Int32 × nt_T))) :=
  nt_b1 (fMo_isSign (42 : Int32) g) fun r3 => (if r3 = 0 then
    (some (.inr (x1, g)))
  else
    (nt_b1 (fMo_next g) fun g5 => nt_b2 (F_atom g5) fun r6 g7 => nt_lt (x1 * r6) fun v8 => some (.inl (v8, g7))))
set_option maxRecDepth 100000 in
set_option maxHeartbeats 4000000 in
theorem tbMo_term_5 {p : Program} {l : Launch} {e : Env} {s : State} {m : MethodId} {args : Array Value} {below : List Frame} {meth : Method} {c : Code} {w : nt_w} {A : Nat → Prop} {nd : Nat} {F_atom : nt_T → Option (Int32 × nt_T)} (hw : nt_isM w) (HF_atom : ∀ {gg : nt_T} {r : Int32} {gg2 : nt_T}, F_atom gg = some (r, gg2) → nt_Mi l w yX9_atom cX9_atom 2 (some .int) (9 + nd) [.ref (nt_a w 0)] gg r gg2) {Q : State → Prop} (X : nt_X cX9_term 2 RX9 (some .int) w A p s m args meth c)  {Qx : ((Int32 × nt_T)) → Prop} (hE0 : ∀ (y1 : Int32) (gy : nt_T), Qx (y1, gy) → nt_G p l e (nt_rm (9 + (nd + 1))) s m args below meth c w A 0 0 Q 2 28 [(0, .ref (nt_a w 0)), (1, .int y1)] [] gy) : ∀ (n : Nat) (x1 : Int32) (g : nt_T), nt_R (nt_it (fun z => bMo_term_5 F_atom z.1 z.2) n (x1, g)) Qx → nt_G p l e (nt_rm (9 + (nd + 1))) s m args below meth c w A 0 0 Q 2 5 [(0, .ref (nt_a w 0)), (1, .int x1)] [] g := by
  intro n
  induction n with
  | zero =>
    intro x1 g h
    exact nt_R_none h
  | succ n ih =>
    intro x1 g h
    have h : nt_R (bMo_term_5 F_atom x1 g) (nt_Qz (fun z => bMo_term_5 F_atom z.1 z.2) n Qx) := nt_R_it h
    have hI : ∀ (y1 : Int32) (gy : nt_T), nt_Qz (fun z => bMo_term_5 F_atom z.1 z.2) n Qx (.inl (y1, gy)) → nt_G p l e (nt_rm (9 + (nd + 1))) s m args below meth c w A 0 0 Q 2 5 [(0, .ref (nt_a w 0)), (1, .int y1)] [] gy := fun y1 gy q => ih y1 gy q
    have hE0 : ∀ (y1 : Int32) (gy : nt_T), nt_Qz (fun z => bMo_term_5 F_atom z.1 z.2) n Qx (.inr (y1, gy)) → nt_G p l e (nt_rm (9 + (nd + 1))) s m args below meth c w A 0 0 Q 2 28 [(0, .ref (nt_a w 0)), (1, .int y1)] [] gy := hE0
    generalize nt_Qz (fun z => bMo_term_5 F_atom z.1 z.2) n Qx = Qz at h hI hE0
    unfold bMo_term_5 at h
    refine nt_aload_n X dX9_term_5 rfl 0 rfl ?_
    refine nt_bipush X dX9_term_6 nt_cb_42 ?_
    obtain ⟨r3, er3, h⟩ := nt_R_b1 h
    refine nt_cVi X (As := [.int (42 : Int32)]) 0 (nt_lM hw (Nat.le_of_ble_eq_true rfl)) (nt_m0 hw) rfl (cMo_isSign hw er3) wd_839 wd_837 wd_838 wd_1096 wd_16 rfl hd_X9_isSign (nt_room (by omega) (by decide)) ⟨Nat.le_refl 0, Nat.le_refl 0⟩ (Nat.le_of_ble_eq_true rfl) rfl dX9_term_8 ?_
    obtain ⟨ht, hf⟩ := nt_R_if h
    refine nt_if_eq X 28 dX9_term_11 (by decide) (fun q4 => ?_) (fun q4 => ?_)
    · have h := ht q4
      refine nt_sub [0, 1] rfl ?_
      have h := nt_R_some h
      exact hE0 x1 g h
    · have h := hf q4
      refine nt_aload_n X dX9_term_14 rfl 0 rfl ?_
      obtain ⟨g5, eg5, h⟩ := nt_R_b1 h
      refine nt_cVv X (As := []) 0 (nt_lM hw (Nat.le_of_ble_eq_true rfl)) (nt_m0 hw) rfl (cMo_next hw eg5) wd_795 wd_793 wd_794 wd_1083 wd_16 rfl hd_X9_next (nt_room (by omega) (by decide)) ⟨Nat.le_refl 0, Nat.le_refl 0⟩ (Nat.le_of_ble_eq_true rfl) rfl dX9_term_15 ?_
      refine nt_iload_n X dX9_term_18 rfl 1 rfl ?_
      refine nt_aload_n X dX9_term_19 rfl 0 rfl ?_
      obtain ⟨r6, g7, er6, h⟩ := nt_R_b2 h
      refine nt_cVi X (As := []) 0 (nt_lM hw (Nat.le_of_ble_eq_true rfl)) (nt_m0 hw) rfl (HF_atom er6) wd_836 wd_834 wd_835 wd_1095 wd_16 rfl hd_X9_atom (nt_room (by omega) (by decide)) ⟨Nat.le_refl 0, Nat.le_refl 0⟩ (Nat.le_of_ble_eq_true rfl) rfl dX9_term_20 ?_
      refine nt_imul X dX9_term_23 ?_
      obtain ⟨v8, ev8, h⟩ := nt_R_lt h
      refine nt_topi ev8 ?_
      refine nt_istore_n X [(1, .int v8), (0, .ref (nt_a w 0))] dX9_term_24 rfl (by decide) rfl ?_
      refine nt_goto X 5 dX9_term_25 (by decide) ?_
      refine nt_sub [1, 0] rfl ?_
      have h := nt_R_some h
      exact hI v8 g7 h
def FMo_term (F_atom : nt_T → Option (Int32 × nt_T)) (g : nt_T) : Option (Int32 × nt_T) :=
  nt_b2 (F_atom g) fun r1 g2 => (nt_b1 (nt_it (fun z => bMo_term_5 F_atom z.1 z.2) nt_fu (r1, g2)) fun z11 => match z11 with
  | (v9, g10) => some (v9, g10))
set_option maxRecDepth 100000 in
set_option maxHeartbeats 4000000 in
theorem CMo_term {l : Launch} {w : nt_w} (hw : nt_isM w) {nd : Nat} {F_atom : nt_T → Option (Int32 × nt_T)} (HF_atom : ∀ {gg : nt_T} {r : Int32} {gg2 : nt_T}, F_atom gg = some (r, gg2) → nt_Mi l w yX9_atom cX9_atom 2 (some .int) (9 + nd) [.ref (nt_a w 0)] gg r gg2) {g : nt_T} {r : Int32} {g2 : nt_T} (hf : FMo_term F_atom g = some (r, g2)) : nt_Mi l w yX9_term cX9_term 2 (some .int) (9 + (nd + 1)) [.ref (nt_a w 0)] g r g2 := by
  refine nt_Mi_of (by decide) (Nat.le_of_ble_eq_true rfl) (fun p e s m args below meth c A X => ?_)
  have X : nt_X cX9_term 2 RX9 (some .int) w A p s m args meth c := X
  have h : nt_R (FMo_term F_atom g) (fun z => z = (r, g2)) := ⟨_, hf, rfl⟩
  unfold FMo_term at h
  show nt_G p l e (nt_rm (9 + (nd + 1))) s m args below meth c w A 0 0 (nt_Qi w A below args s r g2) 2 0 [(0, .ref (nt_a w 0))] [] g
  refine nt_aload_n X dX9_term_0 rfl 0 rfl ?_
  obtain ⟨r1, g2, er1, h⟩ := nt_R_b2 h
  refine nt_cVi X (As := []) 0 (nt_lM hw (Nat.le_of_ble_eq_true rfl)) (nt_m0 hw) rfl (HF_atom er1) wd_836 wd_834 wd_835 wd_1095 wd_16 rfl hd_X9_atom (nt_room (by omega) (by decide)) ⟨Nat.le_refl 0, Nat.le_refl 0⟩ (Nat.le_of_ble_eq_true rfl) rfl dX9_term_1 ?_
  refine nt_istore_n X [(1, .int r1), (0, .ref (nt_a w 0))] dX9_term_4 rfl (by decide) rfl ?_
  obtain ⟨z11, hz11, h⟩ := nt_R_b1 h
  refine nt_sub [1, 0] rfl ?_
  refine tbMo_term_5 hw HF_atom X  (Qx := fun z => z = z11) (fun v9 g10 hq => ?_) nt_fu r1 g2 ⟨_, hz11, rfl⟩
  subst hq
  refine nt_iload_n X dX9_term_28 rfl 1 rfl ?_
  have h := nt_R_some h
  exact nt_iret X dX9_term_29 h
def jMo_added_39 (F_term : nt_T → Option (Int32 × nt_T)) (x1 : Int32) (s0 : Int32) (g : nt_T) : Option ((Int32 × nt_T) ⊕ ((Int32 × nt_T))) :=
  nt_b1 (fMo_next g) fun g6 => nt_b2 (F_term g6) fun r7 g8 => (if s0 = 0 then
    (nt_lt (x1 - r7) fun v10 => some (.inl (v10, g8)))
  else
    (nt_lt (x1 + r7) fun v11 => some (.inl (v11, g8))))
set_option maxRecDepth 100000 in
set_option maxHeartbeats 4000000 in
theorem tjMo_added_39 {p : Program} {l : Launch} {e : Env} {s : State} {m : MethodId} {args : Array Value} {below : List Frame} {meth : Method} {c : Code} {w : nt_w} {A : Nat → Prop} {nd : Nat} {F_term : nt_T → Option (Int32 × nt_T)} (hw : nt_isM w) (HF_term : ∀ {gg : nt_T} {r : Int32} {gg2 : nt_T}, F_term gg = some (r, gg2) → nt_Mi l w yX9_term cX9_term 2 (some .int) (9 + nd) [.ref (nt_a w 0)] gg r gg2) {Q : State → Prop} (X : nt_X cX9_added 4 RX9 (some .int) w A p s m args meth c) (x1 : Int32) (s0 : Int32) (g : nt_T) {Qz : (Int32 × nt_T) ⊕ ((Int32 × nt_T)) → Prop} (hI : ∀ (y1 : Int32) (gy : nt_T), Qz (.inl (y1, gy)) → nt_G p l e (nt_rm (9 + (nd + 1))) s m args below meth c w A 0 0 Q 4 5 [(0, .ref (nt_a w 0)), (1, .int y1)] [] gy) (hE0 : ∀ (y1 : Int32) (gy : nt_T), Qz (.inr (y1, gy)) → nt_G p l e (nt_rm (9 + (nd + 1))) s m args below meth c w A 0 0 Q 4 66 [(0, .ref (nt_a w 0)), (1, .int y1)] [] gy) (h : nt_R (jMo_added_39 F_term x1 s0 g) Qz) : nt_G p l e (nt_rm (9 + (nd + 1))) s m args below meth c w A 0 0 Q 4 39 [(0, .ref (nt_a w 0)), (1, .int x1)] [.int s0] g := by
  unfold jMo_added_39 at h
  refine nt_istore_n X [(2, .int s0), (0, .ref (nt_a w 0)), (1, .int x1)] dX9_added_39 rfl (by decide) rfl ?_
  refine nt_aload_n X dX9_added_40 rfl 1 rfl ?_
  obtain ⟨g6, eg6, h⟩ := nt_R_b1 h
  refine nt_cVv X (As := []) 0 (nt_lM hw (Nat.le_of_ble_eq_true rfl)) (nt_m0 hw) rfl (cMo_next hw eg6) wd_795 wd_793 wd_794 wd_1083 wd_16 rfl hd_X9_next (nt_room (by omega) (by decide)) ⟨Nat.le_refl 0, Nat.le_refl 0⟩ (Nat.le_of_ble_eq_true rfl) rfl dX9_added_41 ?_
  refine nt_aload_n X dX9_added_44 rfl 1 rfl ?_
  obtain ⟨r7, g8, er7, h⟩ := nt_R_b2 h
  refine nt_cVi X (As := []) 0 (nt_lM hw (Nat.le_of_ble_eq_true rfl)) (nt_m0 hw) rfl (HF_term er7) wd_833 wd_831 wd_832 wd_1094 wd_16 rfl hd_X9_term (nt_room (by omega) (by decide)) ⟨Nat.le_refl 0, Nat.le_refl 0⟩ (Nat.le_of_ble_eq_true rfl) rfl dX9_added_45 ?_
  refine nt_istore_n X [(3, .int r7), (2, .int s0), (0, .ref (nt_a w 0)), (1, .int x1)] dX9_added_48 rfl (by decide) rfl ?_
  refine nt_iload_n X dX9_added_49 rfl 1 rfl ?_
  obtain ⟨ht, hf⟩ := nt_R_if h
  refine nt_if_eq X 59 dX9_added_50 (by decide) (fun q9 => ?_) (fun q9 => ?_)
  · have h := ht q9
    refine nt_iload_n X dX9_added_59 rfl 3 rfl ?_
    refine nt_iload_n X dX9_added_60 rfl 0 rfl ?_
    refine nt_isub X dX9_added_61 ?_
    obtain ⟨v10, ev10, h⟩ := nt_R_lt h
    refine nt_topi ev10 ?_
    refine nt_istore_n X [(1, .int v10), (3, .int r7), (2, .int s0), (0, .ref (nt_a w 0))] dX9_added_62 rfl (by decide) rfl ?_
    refine nt_goto X 5 dX9_added_63 (by decide) ?_
    refine nt_sub [3, 0] rfl ?_
    have h := nt_R_some h
    exact hI v10 g8 h
  · have h := hf q9
    refine nt_iload_n X dX9_added_53 rfl 3 rfl ?_
    refine nt_iload_n X dX9_added_54 rfl 0 rfl ?_
    refine nt_iadd X dX9_added_55 ?_
    refine nt_goto X 62 dX9_added_56 (by decide) ?_
    obtain ⟨v11, ev11, h⟩ := nt_R_lt h
    refine nt_topi ev11 ?_
    refine nt_istore_n X [(1, .int v11), (3, .int r7), (2, .int s0), (0, .ref (nt_a w 0))] dX9_added_62 rfl (by decide) rfl ?_
    refine nt_goto X 5 dX9_added_63 (by decide) ?_
    refine nt_sub [3, 0] rfl ?_
    have h := nt_R_some h
    exact hI v11 g8 h
def jMo_added_23 (F_term : nt_T → Option (Int32 × nt_T)) (x1 : Int32) (g : nt_T) : Option ((Int32 × nt_T) ⊕ ((Int32 × nt_T))) :=
  (if (lg_cmp (nt_mk (g 0 130) (g 0 230)) (43 : Int64)) = 0 then
    (jMo_added_39 F_term x1 (1 : Int32) g)
  else
    (jMo_added_39 F_term x1 (0 : Int32) g))
set_option maxRecDepth 100000 in
set_option maxHeartbeats 4000000 in
theorem tjMo_added_23 {p : Program} {l : Launch} {e : Env} {s : State} {m : MethodId} {args : Array Value} {below : List Frame} {meth : Method} {c : Code} {w : nt_w} {A : Nat → Prop} {nd : Nat} {F_term : nt_T → Option (Int32 × nt_T)} (hw : nt_isM w) (HF_term : ∀ {gg : nt_T} {r : Int32} {gg2 : nt_T}, F_term gg = some (r, gg2) → nt_Mi l w yX9_term cX9_term 2 (some .int) (9 + nd) [.ref (nt_a w 0)] gg r gg2) {Q : State → Prop} (X : nt_X cX9_added 4 RX9 (some .int) w A p s m args meth c) (x1 : Int32) (g : nt_T) {Qz : (Int32 × nt_T) ⊕ ((Int32 × nt_T)) → Prop} (hI : ∀ (y1 : Int32) (gy : nt_T), Qz (.inl (y1, gy)) → nt_G p l e (nt_rm (9 + (nd + 1))) s m args below meth c w A 0 0 Q 4 5 [(0, .ref (nt_a w 0)), (1, .int y1)] [] gy) (hE0 : ∀ (y1 : Int32) (gy : nt_T), Qz (.inr (y1, gy)) → nt_G p l e (nt_rm (9 + (nd + 1))) s m args below meth c w A 0 0 Q 4 66 [(0, .ref (nt_a w 0)), (1, .int y1)] [] gy) (h : nt_R (jMo_added_23 F_term x1 g) Qz) : nt_G p l e (nt_rm (9 + (nd + 1))) s m args below meth c w A 0 0 Q 4 23 [(0, .ref (nt_a w 0)), (1, .int x1)] [] g := by
  unfold jMo_added_23 at h
  refine nt_aload_n X dX9_added_23 rfl 0 rfl ?_
  refine nt_get X 0 inX9 (nt_lM hw (Nat.le_of_ble_eq_true rfl)) (nt_m0 hw) rfl (j := 30) (by decide) wd_652 (v := .long (nt_mk (g 0 130) (g 0 230))) rfl dX9_added_24 ?_
  refine nt_ldc2 X wd_843 dX9_added_27 ?_
  refine nt_lcmp X dX9_added_30 ?_
  obtain ⟨ht, hf⟩ := nt_R_if h
  refine nt_if_ne X 38 dX9_added_31 (by decide) (fun q5 => ?_) (fun q5 => ?_)
  · have h := hf q5
    refine nt_iconst X dX9_added_38 nt_ci_0 ?_
    exact tjMo_added_39 hw HF_term X x1 (0 : Int32) g hI hE0 h
  · have h := ht q5
    refine nt_iconst X dX9_added_34 nt_ci_1 ?_
    refine nt_goto X 39 dX9_added_35 (by decide) ?_
    exact tjMo_added_39 hw HF_term X x1 (1 : Int32) g hI hE0 h
def bMo_added_5 (F_term : nt_T → Option (Int32 × nt_T)) (x1 : Int32) (g : nt_T) : Option ((Int32 × nt_T) ⊕ ((Int32 × nt_T))) :=
  nt_b1 (fMo_isSign (43 : Int32) g) fun r3 => (if r3 = 0 then
    (nt_b1 (fMo_isSign (45 : Int32) g) fun r12 => (if r12 = 0 then
    (some (.inr (x1, g)))
  else
    (jMo_added_23 F_term x1 g)))
  else
    (jMo_added_23 F_term x1 g))
set_option maxRecDepth 100000 in
set_option maxHeartbeats 4000000 in
theorem tbMo_added_5 {p : Program} {l : Launch} {e : Env} {s : State} {m : MethodId} {args : Array Value} {below : List Frame} {meth : Method} {c : Code} {w : nt_w} {A : Nat → Prop} {nd : Nat} {F_term : nt_T → Option (Int32 × nt_T)} (hw : nt_isM w) (HF_term : ∀ {gg : nt_T} {r : Int32} {gg2 : nt_T}, F_term gg = some (r, gg2) → nt_Mi l w yX9_term cX9_term 2 (some .int) (9 + nd) [.ref (nt_a w 0)] gg r gg2) {Q : State → Prop} (X : nt_X cX9_added 4 RX9 (some .int) w A p s m args meth c)  {Qx : ((Int32 × nt_T)) → Prop} (hE0 : ∀ (y1 : Int32) (gy : nt_T), Qx (y1, gy) → nt_G p l e (nt_rm (9 + (nd + 1))) s m args below meth c w A 0 0 Q 4 66 [(0, .ref (nt_a w 0)), (1, .int y1)] [] gy) : ∀ (n : Nat) (x1 : Int32) (g : nt_T), nt_R (nt_it (fun z => bMo_added_5 F_term z.1 z.2) n (x1, g)) Qx → nt_G p l e (nt_rm (9 + (nd + 1))) s m args below meth c w A 0 0 Q 4 5 [(0, .ref (nt_a w 0)), (1, .int x1)] [] g := by
  intro n
  induction n with
  | zero =>
    intro x1 g h
    exact nt_R_none h
  | succ n ih =>
    intro x1 g h
    have h : nt_R (bMo_added_5 F_term x1 g) (nt_Qz (fun z => bMo_added_5 F_term z.1 z.2) n Qx) := nt_R_it h
    have hI : ∀ (y1 : Int32) (gy : nt_T), nt_Qz (fun z => bMo_added_5 F_term z.1 z.2) n Qx (.inl (y1, gy)) → nt_G p l e (nt_rm (9 + (nd + 1))) s m args below meth c w A 0 0 Q 4 5 [(0, .ref (nt_a w 0)), (1, .int y1)] [] gy := fun y1 gy q => ih y1 gy q
    have hE0 : ∀ (y1 : Int32) (gy : nt_T), nt_Qz (fun z => bMo_added_5 F_term z.1 z.2) n Qx (.inr (y1, gy)) → nt_G p l e (nt_rm (9 + (nd + 1))) s m args below meth c w A 0 0 Q 4 66 [(0, .ref (nt_a w 0)), (1, .int y1)] [] gy := hE0
    generalize nt_Qz (fun z => bMo_added_5 F_term z.1 z.2) n Qx = Qz at h hI hE0
    unfold bMo_added_5 at h
    refine nt_aload_n X dX9_added_5 rfl 0 rfl ?_
    refine nt_bipush X dX9_added_6 nt_cb_43 ?_
    obtain ⟨r3, er3, h⟩ := nt_R_b1 h
    refine nt_cVi X (As := [.int (43 : Int32)]) 0 (nt_lM hw (Nat.le_of_ble_eq_true rfl)) (nt_m0 hw) rfl (cMo_isSign hw er3) wd_839 wd_837 wd_838 wd_1096 wd_16 rfl hd_X9_isSign (nt_room (by omega) (by decide)) ⟨Nat.le_refl 0, Nat.le_refl 0⟩ (Nat.le_of_ble_eq_true rfl) rfl dX9_added_8 ?_
    obtain ⟨ht, hf⟩ := nt_R_if h
    refine nt_if_ne X 23 dX9_added_11 (by decide) (fun q4 => ?_) (fun q4 => ?_)
    · have h := hf q4
      exact tjMo_added_23 hw HF_term X x1 g hI hE0 h
    · have h := ht q4
      refine nt_aload_n X dX9_added_14 rfl 0 rfl ?_
      refine nt_bipush X dX9_added_15 nt_cb_45 ?_
      obtain ⟨r12, er12, h⟩ := nt_R_b1 h
      refine nt_cVi X (As := [.int (45 : Int32)]) 0 (nt_lM hw (Nat.le_of_ble_eq_true rfl)) (nt_m0 hw) rfl (cMo_isSign hw er12) wd_839 wd_837 wd_838 wd_1096 wd_16 rfl hd_X9_isSign (nt_room (by omega) (by decide)) ⟨Nat.le_refl 0, Nat.le_refl 0⟩ (Nat.le_of_ble_eq_true rfl) rfl dX9_added_17 ?_
      obtain ⟨ht, hf⟩ := nt_R_if h
      refine nt_if_eq X 66 dX9_added_20 (by decide) (fun q13 => ?_) (fun q13 => ?_)
      · have h := ht q13
        refine nt_sub [0, 1] rfl ?_
        have h := nt_R_some h
        exact hE0 x1 g h
      · have h := hf q13
        exact tjMo_added_23 hw HF_term X x1 g hI hE0 h
def FMo_added (F_term : nt_T → Option (Int32 × nt_T)) (g : nt_T) : Option (Int32 × nt_T) :=
  nt_b2 (F_term g) fun r1 g2 => (nt_b1 (nt_it (fun z => bMo_added_5 F_term z.1 z.2) nt_fu (r1, g2)) fun z16 => match z16 with
  | (v14, g15) => some (v14, g15))
set_option maxRecDepth 100000 in
set_option maxHeartbeats 4000000 in
theorem CMo_added {l : Launch} {w : nt_w} (hw : nt_isM w) {nd : Nat} {F_term : nt_T → Option (Int32 × nt_T)} (HF_term : ∀ {gg : nt_T} {r : Int32} {gg2 : nt_T}, F_term gg = some (r, gg2) → nt_Mi l w yX9_term cX9_term 2 (some .int) (9 + nd) [.ref (nt_a w 0)] gg r gg2) {g : nt_T} {r : Int32} {g2 : nt_T} (hf : FMo_added F_term g = some (r, g2)) : nt_Mi l w yX9_added cX9_added 4 (some .int) (9 + (nd + 1)) [.ref (nt_a w 0)] g r g2 := by
  refine nt_Mi_of (by decide) (Nat.le_of_ble_eq_true rfl) (fun p e s m args below meth c A X => ?_)
  have X : nt_X cX9_added 4 RX9 (some .int) w A p s m args meth c := X
  have h : nt_R (FMo_added F_term g) (fun z => z = (r, g2)) := ⟨_, hf, rfl⟩
  unfold FMo_added at h
  show nt_G p l e (nt_rm (9 + (nd + 1))) s m args below meth c w A 0 0 (nt_Qi w A below args s r g2) 4 0 [(0, .ref (nt_a w 0))] [] g
  refine nt_aload_n X dX9_added_0 rfl 0 rfl ?_
  obtain ⟨r1, g2, er1, h⟩ := nt_R_b2 h
  refine nt_cVi X (As := []) 0 (nt_lM hw (Nat.le_of_ble_eq_true rfl)) (nt_m0 hw) rfl (HF_term er1) wd_833 wd_831 wd_832 wd_1094 wd_16 rfl hd_X9_term (nt_room (by omega) (by decide)) ⟨Nat.le_refl 0, Nat.le_refl 0⟩ (Nat.le_of_ble_eq_true rfl) rfl dX9_added_1 ?_
  refine nt_istore_n X [(1, .int r1), (0, .ref (nt_a w 0))] dX9_added_4 rfl (by decide) rfl ?_
  obtain ⟨z16, hz16, h⟩ := nt_R_b1 h
  refine nt_sub [1, 0] rfl ?_
  refine tbMo_added_5 hw HF_term X  (Qx := fun z => z = z16) (fun v14 g15 hq => ?_) nt_fu r1 g2 ⟨_, hz16, rfl⟩
  subst hq
  refine nt_iload_n X dX9_added_66 rfl 1 rfl ?_
  have h := nt_R_some h
  exact nt_iret X dX9_added_67 h
def jMo_not_93 (F_added : nt_T → Option (Int32 × nt_T)) (F_not : nt_T → Option (Int32 × nt_T)) (x1 : Int32) (s0 : Int32) (g : nt_T) : Option (Int32 × nt_T) :=
  nt_b1 (fMo_next g) fun g8 => nt_b2 (F_added g8) fun r9 g10 => (if s0 = 0 then
    ((if x1 = r9 then
    (some ((1 : Int32), g10))
  else
    (some ((0 : Int32), g10))))
  else
    ((if r9 ≤ x1 then
    (some ((0 : Int32), g10))
  else
    (some ((1 : Int32), g10)))))
set_option maxRecDepth 100000 in
set_option maxHeartbeats 4000000 in
theorem tjMo_not_93 {p : Program} {l : Launch} {e : Env} {s : State} {m : MethodId} {args : Array Value} {below : List Frame} {meth : Method} {c : Code} {w : nt_w} {A : Nat → Prop} {nd : Nat} {F_added : nt_T → Option (Int32 × nt_T)} {F_not : nt_T → Option (Int32 × nt_T)} (hw : nt_isM w) (HF_added : ∀ {gg : nt_T} {r : Int32} {gg2 : nt_T}, F_added gg = some (r, gg2) → nt_Mi l w yX9_added cX9_added 4 (some .int) (9 + nd) [.ref (nt_a w 0)] gg r gg2) (HF_not : ∀ {gg : nt_T} {r : Int32} {gg2 : nt_T}, F_not gg = some (r, gg2) → nt_Mi l w yX9_not cX9_not 4 (some .int) (9 + nd) [.ref (nt_a w 0)] gg r gg2) {r : Int32} {g2 : nt_T}  (X : nt_X cX9_not 4 RX9 (some .int) w A p s m args meth c) (x1 : Int32) (s0 : Int32) (g : nt_T) (h : nt_R (jMo_not_93 F_added F_not x1 s0 g) (fun z => z = (r, g2))) : nt_G p l e (nt_rm (9 + (nd + 1))) s m args below meth c w A 0 0 (nt_Qi w A below args s r g2) 4 93 [(0, .ref (nt_a w 0)), (1, .int x1)] [.int s0] g := by
  unfold jMo_not_93 at h
  refine nt_istore_n X [(2, .int s0), (0, .ref (nt_a w 0)), (1, .int x1)] dX9_not_93 rfl (by decide) rfl ?_
  refine nt_aload_n X dX9_not_94 rfl 1 rfl ?_
  obtain ⟨g8, eg8, h⟩ := nt_R_b1 h
  refine nt_cVv X (As := []) 0 (nt_lM hw (Nat.le_of_ble_eq_true rfl)) (nt_m0 hw) rfl (cMo_next hw eg8) wd_795 wd_793 wd_794 wd_1083 wd_16 rfl hd_X9_next (nt_room (by omega) (by decide)) ⟨Nat.le_refl 0, Nat.le_refl 0⟩ (Nat.le_of_ble_eq_true rfl) rfl dX9_not_95 ?_
  refine nt_aload_n X dX9_not_98 rfl 1 rfl ?_
  obtain ⟨r9, g10, er9, h⟩ := nt_R_b2 h
  refine nt_cVi X (As := []) 0 (nt_lM hw (Nat.le_of_ble_eq_true rfl)) (nt_m0 hw) rfl (HF_added er9) wd_830 wd_828 wd_829 wd_1093 wd_16 rfl hd_X9_added (nt_room (by omega) (by decide)) ⟨Nat.le_refl 0, Nat.le_refl 0⟩ (Nat.le_of_ble_eq_true rfl) rfl dX9_not_99 ?_
  refine nt_istore_n X [(3, .int r9), (2, .int s0), (0, .ref (nt_a w 0)), (1, .int x1)] dX9_not_102 rfl (by decide) rfl ?_
  refine nt_iload_n X dX9_not_103 rfl 1 rfl ?_
  obtain ⟨ht, hf⟩ := nt_R_if h
  refine nt_if_eq X 115 dX9_not_104 (by decide) (fun q11 => ?_) (fun q11 => ?_)
  · have h := ht q11
    refine nt_iload_n X dX9_not_115 rfl 3 rfl ?_
    refine nt_iload_n X dX9_not_116 rfl 0 rfl ?_
    obtain ⟨ht, hf⟩ := nt_R_if h
    refine nt_icmp_ne X 124 dX9_not_117 (by decide) (fun q12 => ?_) (fun q12 => ?_)
    · have h := hf q12
      refine nt_iconst X dX9_not_124 nt_ci_0 ?_
      have h := nt_R_some h
      exact nt_iret X dX9_not_125 h
    · have h := ht q12
      refine nt_iconst X dX9_not_120 nt_ci_1 ?_
      refine nt_goto X 125 dX9_not_121 (by decide) ?_
      have h := nt_R_some h
      exact nt_iret X dX9_not_125 h
  · have h := hf q11
    refine nt_iload_n X dX9_not_107 rfl 3 rfl ?_
    refine nt_iload_n X dX9_not_108 rfl 0 rfl ?_
    obtain ⟨ht, hf⟩ := nt_R_if h
    refine nt_icmp_ge X 124 dX9_not_109 (by decide) (fun q13 => ?_) (fun q13 => ?_)
    · have h := ht q13
      refine nt_iconst X dX9_not_124 nt_ci_0 ?_
      have h := nt_R_some h
      exact nt_iret X dX9_not_125 h
    · have h := hf q13
      refine nt_goto X 120 dX9_not_112 (by decide) ?_
      refine nt_iconst X dX9_not_120 nt_ci_1 ?_
      refine nt_goto X 125 dX9_not_121 (by decide) ?_
      have h := nt_R_some h
      exact nt_iret X dX9_not_125 h
def jMo_not_77 (F_added : nt_T → Option (Int32 × nt_T)) (F_not : nt_T → Option (Int32 × nt_T)) (x1 : Int32) (g : nt_T) : Option (Int32 × nt_T) :=
  (if (lg_cmp (nt_mk (g 0 130) (g 0 230)) (60 : Int64)) = 0 then
    (jMo_not_93 F_added F_not x1 (1 : Int32) g)
  else
    (jMo_not_93 F_added F_not x1 (0 : Int32) g))
set_option maxRecDepth 100000 in
set_option maxHeartbeats 4000000 in
theorem tjMo_not_77 {p : Program} {l : Launch} {e : Env} {s : State} {m : MethodId} {args : Array Value} {below : List Frame} {meth : Method} {c : Code} {w : nt_w} {A : Nat → Prop} {nd : Nat} {F_added : nt_T → Option (Int32 × nt_T)} {F_not : nt_T → Option (Int32 × nt_T)} (hw : nt_isM w) (HF_added : ∀ {gg : nt_T} {r : Int32} {gg2 : nt_T}, F_added gg = some (r, gg2) → nt_Mi l w yX9_added cX9_added 4 (some .int) (9 + nd) [.ref (nt_a w 0)] gg r gg2) (HF_not : ∀ {gg : nt_T} {r : Int32} {gg2 : nt_T}, F_not gg = some (r, gg2) → nt_Mi l w yX9_not cX9_not 4 (some .int) (9 + nd) [.ref (nt_a w 0)] gg r gg2) {r : Int32} {g2 : nt_T}  (X : nt_X cX9_not 4 RX9 (some .int) w A p s m args meth c) (x1 : Int32) (g : nt_T) (h : nt_R (jMo_not_77 F_added F_not x1 g) (fun z => z = (r, g2))) : nt_G p l e (nt_rm (9 + (nd + 1))) s m args below meth c w A 0 0 (nt_Qi w A below args s r g2) 4 77 [(0, .ref (nt_a w 0)), (1, .int x1)] [] g := by
  unfold jMo_not_77 at h
  refine nt_aload_n X dX9_not_77 rfl 0 rfl ?_
  refine nt_get X 0 inX9 (nt_lM hw (Nat.le_of_ble_eq_true rfl)) (nt_m0 hw) rfl (j := 30) (by decide) wd_652 (v := .long (nt_mk (g 0 130) (g 0 230))) rfl dX9_not_78 ?_
  refine nt_ldc2 X wd_844 dX9_not_81 ?_
  refine nt_lcmp X dX9_not_84 ?_
  obtain ⟨ht, hf⟩ := nt_R_if h
  refine nt_if_ne X 92 dX9_not_85 (by decide) (fun q7 => ?_) (fun q7 => ?_)
  · have h := hf q7
    refine nt_iconst X dX9_not_92 nt_ci_0 ?_
    exact tjMo_not_93 hw HF_added HF_not X x1 (0 : Int32) g h
  · have h := ht q7
    refine nt_iconst X dX9_not_88 nt_ci_1 ?_
    refine nt_goto X 93 dX9_not_89 (by decide) ?_
    exact tjMo_not_93 hw HF_added HF_not X x1 (1 : Int32) g h
def FMo_not (F_added : nt_T → Option (Int32 × nt_T)) (F_not : nt_T → Option (Int32 × nt_T)) (g : nt_T) : Option (Int32 × nt_T) :=
  nt_b1 (fMo_isWord (110 : Int32) (111 : Int32) (116 : Int32) (0 : Int32) (0 : Int32) (0 : Int32) (0 : Int32) (0 : Int32) g) fun r1 => (if r1 = 0 then
    (nt_b2 (F_added g) fun r3 g4 => nt_b1 (fMo_isSign (60 : Int32) g4) fun r5 => (if r5 = 0 then
    (nt_b1 (fMo_isSign (61 : Int32) g4) fun r14 => (if r14 = 0 then
    (some (r3, g4))
  else
    (jMo_not_77 F_added F_not r3 g4)))
  else
    (jMo_not_77 F_added F_not r3 g4)))
  else
    (nt_b2 (fMo_opens g) fun r16 g17 => (if r16 = 0 then
    (some ((0 : Int32), g17))
  else
    (nt_b2 (F_not g17) fun r19 g20 => nt_lt (nt_st g20 0 31 ((g20 0 31) - (1 : Int32))) fun g21 => (if r19 = 0 then
    (some ((1 : Int32), g21))
  else
    (some ((0 : Int32), g21)))))))
set_option maxRecDepth 100000 in
set_option maxHeartbeats 4000000 in
theorem CMo_not {l : Launch} {w : nt_w} (hw : nt_isM w) {nd : Nat} {F_added : nt_T → Option (Int32 × nt_T)} {F_not : nt_T → Option (Int32 × nt_T)} (HF_added : ∀ {gg : nt_T} {r : Int32} {gg2 : nt_T}, F_added gg = some (r, gg2) → nt_Mi l w yX9_added cX9_added 4 (some .int) (9 + nd) [.ref (nt_a w 0)] gg r gg2) (HF_not : ∀ {gg : nt_T} {r : Int32} {gg2 : nt_T}, F_not gg = some (r, gg2) → nt_Mi l w yX9_not cX9_not 4 (some .int) (9 + nd) [.ref (nt_a w 0)] gg r gg2) {g : nt_T} {r : Int32} {g2 : nt_T} (hf : FMo_not F_added F_not g = some (r, g2)) : nt_Mi l w yX9_not cX9_not 4 (some .int) (9 + (nd + 1)) [.ref (nt_a w 0)] g r g2 := by
  refine nt_Mi_of (by decide) (Nat.le_of_ble_eq_true rfl) (fun p e s m args below meth c A X => ?_)
  have X : nt_X cX9_not 4 RX9 (some .int) w A p s m args meth c := X
  have h : nt_R (FMo_not F_added F_not g) (fun z => z = (r, g2)) := ⟨_, hf, rfl⟩
  unfold FMo_not at h
  show nt_G p l e (nt_rm (9 + (nd + 1))) s m args below meth c w A 0 0 (nt_Qi w A below args s r g2) 4 0 [(0, .ref (nt_a w 0))] [] g
  refine nt_aload_n X dX9_not_0 rfl 0 rfl ?_
  refine nt_bipush X dX9_not_1 nt_cb_110 ?_
  refine nt_bipush X dX9_not_3 nt_cb_111 ?_
  refine nt_bipush X dX9_not_5 nt_cb_116 ?_
  refine nt_iconst X dX9_not_7 nt_ci_0 ?_
  refine nt_iconst X dX9_not_8 nt_ci_0 ?_
  refine nt_iconst X dX9_not_9 nt_ci_0 ?_
  refine nt_iconst X dX9_not_10 nt_ci_0 ?_
  refine nt_iconst X dX9_not_11 nt_ci_0 ?_
  obtain ⟨r1, er1, h⟩ := nt_R_b1 h
  refine nt_cVi X (As := [.int (110 : Int32), .int (111 : Int32), .int (116 : Int32), .int (0 : Int32), .int (0 : Int32), .int (0 : Int32), .int (0 : Int32), .int (0 : Int32)]) 0 (nt_lM hw (Nat.le_of_ble_eq_true rfl)) (nt_m0 hw) rfl (cMo_isWord hw er1) wd_806 wd_804 wd_805 wd_1085 wd_16 rfl hd_X9_isWord (nt_room (by omega) (by decide)) ⟨Nat.le_refl 0, Nat.le_refl 0⟩ (Nat.le_of_ble_eq_true rfl) rfl dX9_not_12 ?_
  obtain ⟨ht, hf⟩ := nt_R_if h
  refine nt_if_eq X 52 dX9_not_15 (by decide) (fun q2 => ?_) (fun q2 => ?_)
  · have h := ht q2
    refine nt_aload_n X dX9_not_52 rfl 0 rfl ?_
    obtain ⟨r3, g4, er3, h⟩ := nt_R_b2 h
    refine nt_cVi X (As := []) 0 (nt_lM hw (Nat.le_of_ble_eq_true rfl)) (nt_m0 hw) rfl (HF_added er3) wd_830 wd_828 wd_829 wd_1093 wd_16 rfl hd_X9_added (nt_room (by omega) (by decide)) ⟨Nat.le_refl 0, Nat.le_refl 0⟩ (Nat.le_of_ble_eq_true rfl) rfl dX9_not_53 ?_
    refine nt_istore_n X [(1, .int r3), (0, .ref (nt_a w 0))] dX9_not_56 rfl (by decide) rfl ?_
    refine nt_aload_n X dX9_not_57 rfl 1 rfl ?_
    refine nt_bipush X dX9_not_58 nt_cb_60 ?_
    obtain ⟨r5, er5, h⟩ := nt_R_b1 h
    refine nt_cVi X (As := [.int (60 : Int32)]) 0 (nt_lM hw (Nat.le_of_ble_eq_true rfl)) (nt_m0 hw) rfl (cMo_isSign hw er5) wd_839 wd_837 wd_838 wd_1096 wd_16 rfl hd_X9_isSign (nt_room (by omega) (by decide)) ⟨Nat.le_refl 0, Nat.le_refl 0⟩ (Nat.le_of_ble_eq_true rfl) rfl dX9_not_60 ?_
    obtain ⟨ht, hf⟩ := nt_R_if h
    refine nt_if_ne X 77 dX9_not_63 (by decide) (fun q6 => ?_) (fun q6 => ?_)
    · have h := hf q6
      refine nt_sub [1, 0] rfl ?_
      exact tjMo_not_77 hw HF_added HF_not X r3 g4 h
    · have h := ht q6
      refine nt_aload_n X dX9_not_66 rfl 1 rfl ?_
      refine nt_bipush X dX9_not_67 nt_cb_61 ?_
      obtain ⟨r14, er14, h⟩ := nt_R_b1 h
      refine nt_cVi X (As := [.int (61 : Int32)]) 0 (nt_lM hw (Nat.le_of_ble_eq_true rfl)) (nt_m0 hw) rfl (cMo_isSign hw er14) wd_839 wd_837 wd_838 wd_1096 wd_16 rfl hd_X9_isSign (nt_room (by omega) (by decide)) ⟨Nat.le_refl 0, Nat.le_refl 0⟩ (Nat.le_of_ble_eq_true rfl) rfl dX9_not_69 ?_
      obtain ⟨ht, hf⟩ := nt_R_if h
      refine nt_if_ne X 77 dX9_not_72 (by decide) (fun q15 => ?_) (fun q15 => ?_)
      · have h := hf q15
        refine nt_sub [1, 0] rfl ?_
        exact tjMo_not_77 hw HF_added HF_not X r3 g4 h
      · have h := ht q15
        refine nt_iload_n X dX9_not_75 rfl 0 rfl ?_
        have h := nt_R_some h
        exact nt_iret X dX9_not_76 h
  · have h := hf q2
    refine nt_aload_n X dX9_not_18 rfl 0 rfl ?_
    obtain ⟨r16, g17, er16, h⟩ := nt_R_b2 h
    refine nt_cVi X (As := []) 0 (nt_lM hw (Nat.le_of_ble_eq_true rfl)) (nt_m0 hw) rfl (cMo_opens hw er16) wd_827 wd_825 wd_826 wd_1092 wd_16 rfl hd_X9_opens (nt_room (by omega) (by decide)) ⟨Nat.le_refl 0, Nat.le_refl 0⟩ (Nat.le_of_ble_eq_true rfl) rfl dX9_not_19 ?_
    obtain ⟨ht, hf⟩ := nt_R_if h
    refine nt_if_ne X 27 dX9_not_22 (by decide) (fun q18 => ?_) (fun q18 => ?_)
    · have h := hf q18
      refine nt_aload_n X dX9_not_27 rfl 0 rfl ?_
      obtain ⟨r19, g20, er19, h⟩ := nt_R_b2 h
      refine nt_cVi X (As := []) 0 (nt_lM hw (Nat.le_of_ble_eq_true rfl)) (nt_m0 hw) rfl (HF_not er19) wd_824 wd_822 wd_823 wd_1091 wd_16 rfl hd_X9_not (nt_room (by omega) (by decide)) ⟨Nat.le_refl 0, Nat.le_refl 0⟩ (Nat.le_of_ble_eq_true rfl) rfl dX9_not_28 ?_
      refine nt_istore_n X [(1, .int r19), (0, .ref (nt_a w 0))] dX9_not_31 rfl (by decide) rfl ?_
      refine nt_aload_n X dX9_not_32 rfl 1 rfl ?_
      refine nt_dup X dX9_not_33 rfl ?_
      refine nt_get X 0 inX9 (nt_lM hw (Nat.le_of_ble_eq_true rfl)) (nt_m0 hw) rfl (j := 31) (by decide) wd_653 (v := .int (g20 0 31)) rfl dX9_not_34 ?_
      refine nt_iconst X dX9_not_37 nt_ci_1 ?_
      refine nt_isub X dX9_not_38 ?_
      refine nt_put X 0 inX9 (nt_lM hw (Nat.le_of_ble_eq_true rfl)) (nt_m0 hw) rfl (j := 31) (by decide) wd_653 tyX9 tyX9_ok nmX9 rfl (ty := .int) rfl rfl rfl (fun _ => Nat.le_of_ble_eq_true rfl) (fun _ => rfl) dX9_not_39 ?_
      obtain ⟨g21, eg21, h⟩ := nt_R_lt h
      refine nt_geq eg21 ?_
      refine nt_iload_n X dX9_not_42 rfl 0 rfl ?_
      obtain ⟨ht, hf⟩ := nt_R_if h
      refine nt_if_ne X 50 dX9_not_43 (by decide) (fun q22 => ?_) (fun q22 => ?_)
      · have h := hf q22
        refine nt_iconst X dX9_not_50 nt_ci_0 ?_
        have h := nt_R_some h
        exact nt_iret X dX9_not_51 h
      · have h := ht q22
        refine nt_iconst X dX9_not_46 nt_ci_1 ?_
        refine nt_goto X 51 dX9_not_47 (by decide) ?_
        have h := nt_R_some h
        exact nt_iret X dX9_not_51 h
    · have h := ht q18
      refine nt_iconst X dX9_not_25 nt_ci_0 ?_
      have h := nt_R_some h
      exact nt_iret X dX9_not_26 h
def bMo_both_5 (F_not : nt_T → Option (Int32 × nt_T)) (x1 : Int32) (g : nt_T) : Option ((Int32 × nt_T) ⊕ ((Int32 × nt_T))) :=
  nt_b1 (fMo_isWord (97 : Int32) (110 : Int32) (100 : Int32) (0 : Int32) (0 : Int32) (0 : Int32) (0 : Int32) (0 : Int32) g) fun r3 => (if r3 = 0 then
    (some (.inr (x1, g)))
  else
    (nt_b1 (fMo_next g) fun g5 => nt_b2 (F_not g5) fun r6 g7 => (if x1 = 0 then
    (some (.inl ((0 : Int32), g7)))
  else
    ((if r6 = 0 then
    (some (.inl ((0 : Int32), g7)))
  else
    (some (.inl ((1 : Int32), g7))))))))
set_option maxRecDepth 100000 in
set_option maxHeartbeats 4000000 in
theorem tbMo_both_5 {p : Program} {l : Launch} {e : Env} {s : State} {m : MethodId} {args : Array Value} {below : List Frame} {meth : Method} {c : Code} {w : nt_w} {A : Nat → Prop} {nd : Nat} {F_not : nt_T → Option (Int32 × nt_T)} (hw : nt_isM w) (HF_not : ∀ {gg : nt_T} {r : Int32} {gg2 : nt_T}, F_not gg = some (r, gg2) → nt_Mi l w yX9_not cX9_not 4 (some .int) (9 + nd) [.ref (nt_a w 0)] gg r gg2) {Q : State → Prop} (X : nt_X cX9_both 3 RX9 (some .int) w A p s m args meth c)  {Qx : ((Int32 × nt_T)) → Prop} (hE0 : ∀ (y1 : Int32) (gy : nt_T), Qx (y1, gy) → nt_G p l e (nt_rm (9 + (nd + 1))) s m args below meth c w A 0 0 Q 3 49 [(0, .ref (nt_a w 0)), (1, .int y1)] [] gy) : ∀ (n : Nat) (x1 : Int32) (g : nt_T), nt_R (nt_it (fun z => bMo_both_5 F_not z.1 z.2) n (x1, g)) Qx → nt_G p l e (nt_rm (9 + (nd + 1))) s m args below meth c w A 0 0 Q 3 5 [(0, .ref (nt_a w 0)), (1, .int x1)] [] g := by
  intro n
  induction n with
  | zero =>
    intro x1 g h
    exact nt_R_none h
  | succ n ih =>
    intro x1 g h
    have h : nt_R (bMo_both_5 F_not x1 g) (nt_Qz (fun z => bMo_both_5 F_not z.1 z.2) n Qx) := nt_R_it h
    have hI : ∀ (y1 : Int32) (gy : nt_T), nt_Qz (fun z => bMo_both_5 F_not z.1 z.2) n Qx (.inl (y1, gy)) → nt_G p l e (nt_rm (9 + (nd + 1))) s m args below meth c w A 0 0 Q 3 5 [(0, .ref (nt_a w 0)), (1, .int y1)] [] gy := fun y1 gy q => ih y1 gy q
    have hE0 : ∀ (y1 : Int32) (gy : nt_T), nt_Qz (fun z => bMo_both_5 F_not z.1 z.2) n Qx (.inr (y1, gy)) → nt_G p l e (nt_rm (9 + (nd + 1))) s m args below meth c w A 0 0 Q 3 49 [(0, .ref (nt_a w 0)), (1, .int y1)] [] gy := hE0
    generalize nt_Qz (fun z => bMo_both_5 F_not z.1 z.2) n Qx = Qz at h hI hE0
    unfold bMo_both_5 at h
    refine nt_aload_n X dX9_both_5 rfl 0 rfl ?_
    refine nt_bipush X dX9_both_6 nt_cb_97 ?_
    refine nt_bipush X dX9_both_8 nt_cb_110 ?_
    refine nt_bipush X dX9_both_10 nt_cb_100 ?_
    refine nt_iconst X dX9_both_12 nt_ci_0 ?_
    refine nt_iconst X dX9_both_13 nt_ci_0 ?_
    refine nt_iconst X dX9_both_14 nt_ci_0 ?_
    refine nt_iconst X dX9_both_15 nt_ci_0 ?_
    refine nt_iconst X dX9_both_16 nt_ci_0 ?_
    obtain ⟨r3, er3, h⟩ := nt_R_b1 h
    refine nt_cVi X (As := [.int (97 : Int32), .int (110 : Int32), .int (100 : Int32), .int (0 : Int32), .int (0 : Int32), .int (0 : Int32), .int (0 : Int32), .int (0 : Int32)]) 0 (nt_lM hw (Nat.le_of_ble_eq_true rfl)) (nt_m0 hw) rfl (cMo_isWord hw er3) wd_806 wd_804 wd_805 wd_1085 wd_16 rfl hd_X9_isWord (nt_room (by omega) (by decide)) ⟨Nat.le_refl 0, Nat.le_refl 0⟩ (Nat.le_of_ble_eq_true rfl) rfl dX9_both_17 ?_
    obtain ⟨ht, hf⟩ := nt_R_if h
    refine nt_if_eq X 49 dX9_both_20 (by decide) (fun q4 => ?_) (fun q4 => ?_)
    · have h := ht q4
      refine nt_sub [0, 1] rfl ?_
      have h := nt_R_some h
      exact hE0 x1 g h
    · have h := hf q4
      refine nt_aload_n X dX9_both_23 rfl 0 rfl ?_
      obtain ⟨g5, eg5, h⟩ := nt_R_b1 h
      refine nt_cVv X (As := []) 0 (nt_lM hw (Nat.le_of_ble_eq_true rfl)) (nt_m0 hw) rfl (cMo_next hw eg5) wd_795 wd_793 wd_794 wd_1083 wd_16 rfl hd_X9_next (nt_room (by omega) (by decide)) ⟨Nat.le_refl 0, Nat.le_refl 0⟩ (Nat.le_of_ble_eq_true rfl) rfl dX9_both_24 ?_
      refine nt_aload_n X dX9_both_27 rfl 0 rfl ?_
      obtain ⟨r6, g7, er6, h⟩ := nt_R_b2 h
      refine nt_cVi X (As := []) 0 (nt_lM hw (Nat.le_of_ble_eq_true rfl)) (nt_m0 hw) rfl (HF_not er6) wd_824 wd_822 wd_823 wd_1091 wd_16 rfl hd_X9_not (nt_room (by omega) (by decide)) ⟨Nat.le_refl 0, Nat.le_refl 0⟩ (Nat.le_of_ble_eq_true rfl) rfl dX9_both_28 ?_
      refine nt_istore_n X [(2, .int r6), (0, .ref (nt_a w 0)), (1, .int x1)] dX9_both_31 rfl (by decide) rfl ?_
      refine nt_iload_n X dX9_both_32 rfl 2 rfl ?_
      obtain ⟨ht, hf⟩ := nt_R_if h
      refine nt_if_eq X 44 dX9_both_33 (by decide) (fun q8 => ?_) (fun q8 => ?_)
      · have h := ht q8
        refine nt_iconst X dX9_both_44 nt_ci_0 ?_
        refine nt_istore_n X [(1, .int (0 : Int32)), (2, .int r6), (0, .ref (nt_a w 0))] dX9_both_45 rfl (by decide) rfl ?_
        refine nt_goto X 5 dX9_both_46 (by decide) ?_
        refine nt_sub [2, 0] rfl ?_
        have h := nt_R_some h
        exact hI (0 : Int32) g7 h
      · have h := hf q8
        refine nt_iload_n X dX9_both_36 rfl 0 rfl ?_
        obtain ⟨ht, hf⟩ := nt_R_if h
        refine nt_if_eq X 44 dX9_both_37 (by decide) (fun q9 => ?_) (fun q9 => ?_)
        · have h := ht q9
          refine nt_iconst X dX9_both_44 nt_ci_0 ?_
          refine nt_istore_n X [(1, .int (0 : Int32)), (2, .int r6), (0, .ref (nt_a w 0))] dX9_both_45 rfl (by decide) rfl ?_
          refine nt_goto X 5 dX9_both_46 (by decide) ?_
          refine nt_sub [2, 0] rfl ?_
          have h := nt_R_some h
          exact hI (0 : Int32) g7 h
        · have h := hf q9
          refine nt_iconst X dX9_both_40 nt_ci_1 ?_
          refine nt_goto X 45 dX9_both_41 (by decide) ?_
          refine nt_istore_n X [(1, .int (1 : Int32)), (2, .int r6), (0, .ref (nt_a w 0))] dX9_both_45 rfl (by decide) rfl ?_
          refine nt_goto X 5 dX9_both_46 (by decide) ?_
          refine nt_sub [2, 0] rfl ?_
          have h := nt_R_some h
          exact hI (1 : Int32) g7 h
def FMo_both (F_not : nt_T → Option (Int32 × nt_T)) (g : nt_T) : Option (Int32 × nt_T) :=
  nt_b2 (F_not g) fun r1 g2 => (nt_b1 (nt_it (fun z => bMo_both_5 F_not z.1 z.2) nt_fu (r1, g2)) fun z12 => match z12 with
  | (v10, g11) => some (v10, g11))
set_option maxRecDepth 100000 in
set_option maxHeartbeats 4000000 in
theorem CMo_both {l : Launch} {w : nt_w} (hw : nt_isM w) {nd : Nat} {F_not : nt_T → Option (Int32 × nt_T)} (HF_not : ∀ {gg : nt_T} {r : Int32} {gg2 : nt_T}, F_not gg = some (r, gg2) → nt_Mi l w yX9_not cX9_not 4 (some .int) (9 + nd) [.ref (nt_a w 0)] gg r gg2) {g : nt_T} {r : Int32} {g2 : nt_T} (hf : FMo_both F_not g = some (r, g2)) : nt_Mi l w yX9_both cX9_both 3 (some .int) (9 + (nd + 1)) [.ref (nt_a w 0)] g r g2 := by
  refine nt_Mi_of (by decide) (Nat.le_of_ble_eq_true rfl) (fun p e s m args below meth c A X => ?_)
  have X : nt_X cX9_both 3 RX9 (some .int) w A p s m args meth c := X
  have h : nt_R (FMo_both F_not g) (fun z => z = (r, g2)) := ⟨_, hf, rfl⟩
  unfold FMo_both at h
  show nt_G p l e (nt_rm (9 + (nd + 1))) s m args below meth c w A 0 0 (nt_Qi w A below args s r g2) 3 0 [(0, .ref (nt_a w 0))] [] g
  refine nt_aload_n X dX9_both_0 rfl 0 rfl ?_
  obtain ⟨r1, g2, er1, h⟩ := nt_R_b2 h
  refine nt_cVi X (As := []) 0 (nt_lM hw (Nat.le_of_ble_eq_true rfl)) (nt_m0 hw) rfl (HF_not er1) wd_824 wd_822 wd_823 wd_1091 wd_16 rfl hd_X9_not (nt_room (by omega) (by decide)) ⟨Nat.le_refl 0, Nat.le_refl 0⟩ (Nat.le_of_ble_eq_true rfl) rfl dX9_both_1 ?_
  refine nt_istore_n X [(1, .int r1), (0, .ref (nt_a w 0))] dX9_both_4 rfl (by decide) rfl ?_
  obtain ⟨z12, hz12, h⟩ := nt_R_b1 h
  refine nt_sub [1, 0] rfl ?_
  refine tbMo_both_5 hw HF_not X  (Qx := fun z => z = z12) (fun v10 g11 hq => ?_) nt_fu r1 g2 ⟨_, hz12, rfl⟩
  subst hq
  refine nt_iload_n X dX9_both_49 rfl 1 rfl ?_
  have h := nt_R_some h
  exact nt_iret X dX9_both_50 h
def bMo_either_5 (F_both : nt_T → Option (Int32 × nt_T)) (x1 : Int32) (g : nt_T) : Option ((Int32 × nt_T) ⊕ ((Int32 × nt_T))) :=
  nt_b1 (fMo_isWord (111 : Int32) (114 : Int32) (0 : Int32) (0 : Int32) (0 : Int32) (0 : Int32) (0 : Int32) (0 : Int32) g) fun r3 => (if r3 = 0 then
    (some (.inr (x1, g)))
  else
    (nt_b1 (fMo_next g) fun g5 => nt_b2 (F_both g5) fun r6 g7 => (if x1 = 0 then
    ((if r6 = 0 then
    (some (.inl ((0 : Int32), g7)))
  else
    (some (.inl ((1 : Int32), g7)))))
  else
    (some (.inl ((1 : Int32), g7))))))
set_option maxRecDepth 100000 in
set_option maxHeartbeats 4000000 in
theorem tbMo_either_5 {p : Program} {l : Launch} {e : Env} {s : State} {m : MethodId} {args : Array Value} {below : List Frame} {meth : Method} {c : Code} {w : nt_w} {A : Nat → Prop} {nd : Nat} {F_both : nt_T → Option (Int32 × nt_T)} (hw : nt_isM w) (HF_both : ∀ {gg : nt_T} {r : Int32} {gg2 : nt_T}, F_both gg = some (r, gg2) → nt_Mi l w yX9_both cX9_both 3 (some .int) (9 + nd) [.ref (nt_a w 0)] gg r gg2) {Q : State → Prop} (X : nt_X cX9_either 3 RX9 (some .int) w A p s m args meth c)  {Qx : ((Int32 × nt_T)) → Prop} (hE0 : ∀ (y1 : Int32) (gy : nt_T), Qx (y1, gy) → nt_G p l e (nt_rm (9 + (nd + 1))) s m args below meth c w A 0 0 Q 3 48 [(0, .ref (nt_a w 0)), (1, .int y1)] [] gy) : ∀ (n : Nat) (x1 : Int32) (g : nt_T), nt_R (nt_it (fun z => bMo_either_5 F_both z.1 z.2) n (x1, g)) Qx → nt_G p l e (nt_rm (9 + (nd + 1))) s m args below meth c w A 0 0 Q 3 5 [(0, .ref (nt_a w 0)), (1, .int x1)] [] g := by
  intro n
  induction n with
  | zero =>
    intro x1 g h
    exact nt_R_none h
  | succ n ih =>
    intro x1 g h
    have h : nt_R (bMo_either_5 F_both x1 g) (nt_Qz (fun z => bMo_either_5 F_both z.1 z.2) n Qx) := nt_R_it h
    have hI : ∀ (y1 : Int32) (gy : nt_T), nt_Qz (fun z => bMo_either_5 F_both z.1 z.2) n Qx (.inl (y1, gy)) → nt_G p l e (nt_rm (9 + (nd + 1))) s m args below meth c w A 0 0 Q 3 5 [(0, .ref (nt_a w 0)), (1, .int y1)] [] gy := fun y1 gy q => ih y1 gy q
    have hE0 : ∀ (y1 : Int32) (gy : nt_T), nt_Qz (fun z => bMo_either_5 F_both z.1 z.2) n Qx (.inr (y1, gy)) → nt_G p l e (nt_rm (9 + (nd + 1))) s m args below meth c w A 0 0 Q 3 48 [(0, .ref (nt_a w 0)), (1, .int y1)] [] gy := hE0
    generalize nt_Qz (fun z => bMo_either_5 F_both z.1 z.2) n Qx = Qz at h hI hE0
    unfold bMo_either_5 at h
    refine nt_aload_n X dX9_either_5 rfl 0 rfl ?_
    refine nt_bipush X dX9_either_6 nt_cb_111 ?_
    refine nt_bipush X dX9_either_8 nt_cb_114 ?_
    refine nt_iconst X dX9_either_10 nt_ci_0 ?_
    refine nt_iconst X dX9_either_11 nt_ci_0 ?_
    refine nt_iconst X dX9_either_12 nt_ci_0 ?_
    refine nt_iconst X dX9_either_13 nt_ci_0 ?_
    refine nt_iconst X dX9_either_14 nt_ci_0 ?_
    refine nt_iconst X dX9_either_15 nt_ci_0 ?_
    obtain ⟨r3, er3, h⟩ := nt_R_b1 h
    refine nt_cVi X (As := [.int (111 : Int32), .int (114 : Int32), .int (0 : Int32), .int (0 : Int32), .int (0 : Int32), .int (0 : Int32), .int (0 : Int32), .int (0 : Int32)]) 0 (nt_lM hw (Nat.le_of_ble_eq_true rfl)) (nt_m0 hw) rfl (cMo_isWord hw er3) wd_806 wd_804 wd_805 wd_1085 wd_16 rfl hd_X9_isWord (nt_room (by omega) (by decide)) ⟨Nat.le_refl 0, Nat.le_refl 0⟩ (Nat.le_of_ble_eq_true rfl) rfl dX9_either_16 ?_
    obtain ⟨ht, hf⟩ := nt_R_if h
    refine nt_if_eq X 48 dX9_either_19 (by decide) (fun q4 => ?_) (fun q4 => ?_)
    · have h := ht q4
      refine nt_sub [0, 1] rfl ?_
      have h := nt_R_some h
      exact hE0 x1 g h
    · have h := hf q4
      refine nt_aload_n X dX9_either_22 rfl 0 rfl ?_
      obtain ⟨g5, eg5, h⟩ := nt_R_b1 h
      refine nt_cVv X (As := []) 0 (nt_lM hw (Nat.le_of_ble_eq_true rfl)) (nt_m0 hw) rfl (cMo_next hw eg5) wd_795 wd_793 wd_794 wd_1083 wd_16 rfl hd_X9_next (nt_room (by omega) (by decide)) ⟨Nat.le_refl 0, Nat.le_refl 0⟩ (Nat.le_of_ble_eq_true rfl) rfl dX9_either_23 ?_
      refine nt_aload_n X dX9_either_26 rfl 0 rfl ?_
      obtain ⟨r6, g7, er6, h⟩ := nt_R_b2 h
      refine nt_cVi X (As := []) 0 (nt_lM hw (Nat.le_of_ble_eq_true rfl)) (nt_m0 hw) rfl (HF_both er6) wd_821 wd_819 wd_820 wd_1090 wd_16 rfl hd_X9_both (nt_room (by omega) (by decide)) ⟨Nat.le_refl 0, Nat.le_refl 0⟩ (Nat.le_of_ble_eq_true rfl) rfl dX9_either_27 ?_
      refine nt_istore_n X [(2, .int r6), (0, .ref (nt_a w 0)), (1, .int x1)] dX9_either_30 rfl (by decide) rfl ?_
      refine nt_iload_n X dX9_either_31 rfl 2 rfl ?_
      obtain ⟨ht, hf⟩ := nt_R_if h
      refine nt_if_ne X 39 dX9_either_32 (by decide) (fun q8 => ?_) (fun q8 => ?_)
      · have h := hf q8
        refine nt_iconst X dX9_either_39 nt_ci_1 ?_
        refine nt_goto X 44 dX9_either_40 (by decide) ?_
        refine nt_istore_n X [(1, .int (1 : Int32)), (2, .int r6), (0, .ref (nt_a w 0))] dX9_either_44 rfl (by decide) rfl ?_
        refine nt_goto X 5 dX9_either_45 (by decide) ?_
        refine nt_sub [2, 0] rfl ?_
        have h := nt_R_some h
        exact hI (1 : Int32) g7 h
      · have h := ht q8
        refine nt_iload_n X dX9_either_35 rfl 0 rfl ?_
        obtain ⟨ht, hf⟩ := nt_R_if h
        refine nt_if_eq X 43 dX9_either_36 (by decide) (fun q9 => ?_) (fun q9 => ?_)
        · have h := ht q9
          refine nt_iconst X dX9_either_43 nt_ci_0 ?_
          refine nt_istore_n X [(1, .int (0 : Int32)), (2, .int r6), (0, .ref (nt_a w 0))] dX9_either_44 rfl (by decide) rfl ?_
          refine nt_goto X 5 dX9_either_45 (by decide) ?_
          refine nt_sub [2, 0] rfl ?_
          have h := nt_R_some h
          exact hI (0 : Int32) g7 h
        · have h := hf q9
          refine nt_iconst X dX9_either_39 nt_ci_1 ?_
          refine nt_goto X 44 dX9_either_40 (by decide) ?_
          refine nt_istore_n X [(1, .int (1 : Int32)), (2, .int r6), (0, .ref (nt_a w 0))] dX9_either_44 rfl (by decide) rfl ?_
          refine nt_goto X 5 dX9_either_45 (by decide) ?_
          refine nt_sub [2, 0] rfl ?_
          have h := nt_R_some h
          exact hI (1 : Int32) g7 h
def FMo_either (F_both : nt_T → Option (Int32 × nt_T)) (g : nt_T) : Option (Int32 × nt_T) :=
  nt_b2 (F_both g) fun r1 g2 => (nt_b1 (nt_it (fun z => bMo_either_5 F_both z.1 z.2) nt_fu (r1, g2)) fun z12 => match z12 with
  | (v10, g11) => some (v10, g11))
set_option maxRecDepth 100000 in
set_option maxHeartbeats 4000000 in
theorem CMo_either {l : Launch} {w : nt_w} (hw : nt_isM w) {nd : Nat} {F_both : nt_T → Option (Int32 × nt_T)} (HF_both : ∀ {gg : nt_T} {r : Int32} {gg2 : nt_T}, F_both gg = some (r, gg2) → nt_Mi l w yX9_both cX9_both 3 (some .int) (9 + nd) [.ref (nt_a w 0)] gg r gg2) {g : nt_T} {r : Int32} {g2 : nt_T} (hf : FMo_either F_both g = some (r, g2)) : nt_Mi l w yX9_either cX9_either 3 (some .int) (9 + (nd + 1)) [.ref (nt_a w 0)] g r g2 := by
  refine nt_Mi_of (by decide) (Nat.le_of_ble_eq_true rfl) (fun p e s m args below meth c A X => ?_)
  have X : nt_X cX9_either 3 RX9 (some .int) w A p s m args meth c := X
  have h : nt_R (FMo_either F_both g) (fun z => z = (r, g2)) := ⟨_, hf, rfl⟩
  unfold FMo_either at h
  show nt_G p l e (nt_rm (9 + (nd + 1))) s m args below meth c w A 0 0 (nt_Qi w A below args s r g2) 3 0 [(0, .ref (nt_a w 0))] [] g
  refine nt_aload_n X dX9_either_0 rfl 0 rfl ?_
  obtain ⟨r1, g2, er1, h⟩ := nt_R_b2 h
  refine nt_cVi X (As := []) 0 (nt_lM hw (Nat.le_of_ble_eq_true rfl)) (nt_m0 hw) rfl (HF_both er1) wd_821 wd_819 wd_820 wd_1090 wd_16 rfl hd_X9_both (nt_room (by omega) (by decide)) ⟨Nat.le_refl 0, Nat.le_refl 0⟩ (Nat.le_of_ble_eq_true rfl) rfl dX9_either_1 ?_
  refine nt_istore_n X [(1, .int r1), (0, .ref (nt_a w 0))] dX9_either_4 rfl (by decide) rfl ?_
  obtain ⟨z12, hz12, h⟩ := nt_R_b1 h
  refine nt_sub [1, 0] rfl ?_
  refine tbMo_either_5 hw HF_both X  (Qx := fun z => z = z12) (fun v10 g11 hq => ?_) nt_fu r1 g2 ⟨_, hz12, rfl⟩
  subst hq
  refine nt_iload_n X dX9_either_48 rfl 1 rfl ?_
  have h := nt_R_some h
  exact nt_iret X dX9_either_49 h
def kMo : Nat → (nt_T → Option (Int32 × nt_T)) × (nt_T → Option (Int32 × nt_T)) × (nt_T → Option (Int32 × nt_T)) × (nt_T → Option (Int32 × nt_T)) × (nt_T → Option (Int32 × nt_T)) × (nt_T → Option (Int32 × nt_T))
  | 0 => (fun _ => none, fun _ => none, fun _ => none, fun _ => none, fun _ => none, fun _ => none)
  | n + 1 => (FMo_atom (kMo n).1 (kMo n).2.2.2.2.2, FMo_term (kMo n).1, FMo_added (kMo n).2.1, FMo_not (kMo n).2.2.1 (kMo n).2.2.2.1, FMo_both (kMo n).2.2.2.1, FMo_either (kMo n).2.2.2.2.1)
theorem CkMo {l : Launch} {w : nt_w} (hw : nt_isM w) : ∀ n : Nat, (∀ {gg : nt_T} {r : Int32} {gg2 : nt_T}, (kMo n).1 gg = some (r, gg2) → nt_Mi l w yX9_atom cX9_atom 2 (some .int) (9 + n) [.ref (nt_a w 0)] gg r gg2) ∧ (∀ {gg : nt_T} {r : Int32} {gg2 : nt_T}, (kMo n).2.1 gg = some (r, gg2) → nt_Mi l w yX9_term cX9_term 2 (some .int) (9 + n) [.ref (nt_a w 0)] gg r gg2) ∧ (∀ {gg : nt_T} {r : Int32} {gg2 : nt_T}, (kMo n).2.2.1 gg = some (r, gg2) → nt_Mi l w yX9_added cX9_added 4 (some .int) (9 + n) [.ref (nt_a w 0)] gg r gg2) ∧ (∀ {gg : nt_T} {r : Int32} {gg2 : nt_T}, (kMo n).2.2.2.1 gg = some (r, gg2) → nt_Mi l w yX9_not cX9_not 4 (some .int) (9 + n) [.ref (nt_a w 0)] gg r gg2) ∧ (∀ {gg : nt_T} {r : Int32} {gg2 : nt_T}, (kMo n).2.2.2.2.1 gg = some (r, gg2) → nt_Mi l w yX9_both cX9_both 3 (some .int) (9 + n) [.ref (nt_a w 0)] gg r gg2) ∧ (∀ {gg : nt_T} {r : Int32} {gg2 : nt_T}, (kMo n).2.2.2.2.2 gg = some (r, gg2) → nt_Mi l w yX9_either cX9_either 3 (some .int) (9 + n) [.ref (nt_a w 0)] gg r gg2) := by
  intro n
  induction n with
  | zero => exact ⟨(fun h => by cases h), (fun h => by cases h), (fun h => by cases h), (fun h => by cases h), (fun h => by cases h), (fun h => by cases h)⟩
  | succ n ih => exact ⟨fun h => CMo_atom hw ih.1 ih.2.2.2.2.2 h, fun h => CMo_term hw ih.1 h, fun h => CMo_added hw ih.2.1 h, fun h => CMo_not hw ih.2.2.1 ih.2.2.2.1 h, fun h => CMo_both hw ih.2.2.2.1 h, fun h => CMo_either hw ih.2.2.2.2.1 h⟩
def fMo_atom (g : nt_T) : Option (Int32 × nt_T) := (kMo 60).1 g
theorem cMo_atom {l : Launch} {w : nt_w} (hw : nt_isM w) {g : nt_T} {r : Int32} {g2 : nt_T} (hf : fMo_atom g = some (r, g2)) : nt_Mi l w yX9_atom cX9_atom 2 (some .int) 69 [.ref (nt_a w 0)] g r g2 := (CkMo hw 60).1 hf
def fMo_term (g : nt_T) : Option (Int32 × nt_T) := (kMo 60).2.1 g
theorem cMo_term {l : Launch} {w : nt_w} (hw : nt_isM w) {g : nt_T} {r : Int32} {g2 : nt_T} (hf : fMo_term g = some (r, g2)) : nt_Mi l w yX9_term cX9_term 2 (some .int) 69 [.ref (nt_a w 0)] g r g2 := (CkMo hw 60).2.1 hf
def fMo_added (g : nt_T) : Option (Int32 × nt_T) := (kMo 60).2.2.1 g
theorem cMo_added {l : Launch} {w : nt_w} (hw : nt_isM w) {g : nt_T} {r : Int32} {g2 : nt_T} (hf : fMo_added g = some (r, g2)) : nt_Mi l w yX9_added cX9_added 4 (some .int) 69 [.ref (nt_a w 0)] g r g2 := (CkMo hw 60).2.2.1 hf
def fMo_not (g : nt_T) : Option (Int32 × nt_T) := (kMo 60).2.2.2.1 g
theorem cMo_not {l : Launch} {w : nt_w} (hw : nt_isM w) {g : nt_T} {r : Int32} {g2 : nt_T} (hf : fMo_not g = some (r, g2)) : nt_Mi l w yX9_not cX9_not 4 (some .int) 69 [.ref (nt_a w 0)] g r g2 := (CkMo hw 60).2.2.2.1 hf
def fMo_both (g : nt_T) : Option (Int32 × nt_T) := (kMo 60).2.2.2.2.1 g
theorem cMo_both {l : Launch} {w : nt_w} (hw : nt_isM w) {g : nt_T} {r : Int32} {g2 : nt_T} (hf : fMo_both g = some (r, g2)) : nt_Mi l w yX9_both cX9_both 3 (some .int) 69 [.ref (nt_a w 0)] g r g2 := (CkMo hw 60).2.2.2.2.1 hf
def fMo_either (g : nt_T) : Option (Int32 × nt_T) := (kMo 60).2.2.2.2.2 g
theorem cMo_either {l : Launch} {w : nt_w} (hw : nt_isM w) {g : nt_T} {r : Int32} {g2 : nt_T} (hf : fMo_either g = some (r, g2)) : nt_Mi l w yX9_either cX9_either 3 (some .int) 69 [.ref (nt_a w 0)] g r g2 := (CkMo hw 60).2.2.2.2.2 hf
