def bRd_readsLevel_78 (F_readsLevel : Int32 → nt_T → Option (Int32 × nt_T)) (F_readsOpened : nt_T → Option (Int32 × nt_T)) (x1 : Int32) (x3 : Int32) (x2 : Int32) (x4 : Int32) (g : nt_T) : Option ((Int32 × Int32 × nt_T) ⊕ ((Int32 × nt_T))) :=
  (if x3 ≤ x4 then
    (some (.inr (x2, g)))
  else
    ((if x2 = 0 then
    (some (.inr (x2, g)))
  else
    (nt_b1 (fRd_levelOf (g 10 3) g) fun r8 => (if r8 = x1 then
    (nt_lt (g 10 3) fun v10 => nt_b1 (fRd_step g) fun g11 => nt_b2 (F_readsLevel (x1 + (1 : Int32)) g11) fun r12 g13 => nt_b1 (fRd_write v10 g13) fun g14 => nt_lt (x4 + (1 : Int32)) fun v15 => some (.inl (r12, v15, g14)))
  else
    (some (.inr (x2, g))))))))
set_option maxRecDepth 100000 in
set_option maxHeartbeats 4000000 in
theorem tbRd_readsLevel_78 {p : Program} {l : Launch} {e : Env} {s : State} {m : MethodId} {args : Array Value} {below : List Frame} {meth : Method} {c : Code} {w : nt_w} {A : Nat → Prop} {nd : Nat} {F_readsLevel : Int32 → nt_T → Option (Int32 × nt_T)} {F_readsOpened : nt_T → Option (Int32 × nt_T)} (hw : nt_isD w) (HF_readsLevel : ∀ {a0 : Int32} {gg : nt_T} {r : Int32} {gg2 : nt_T}, F_readsLevel a0 gg = some (r, gg2) → nt_Mi l w yX1_readsLevel cX1_readsLevel 6 (some .boolean) (15 + nd) [.ref (nt_a w 10), .int a0] gg r gg2) (HF_readsOpened : ∀ {gg : nt_T} {r : Int32} {gg2 : nt_T}, F_readsOpened gg = some (r, gg2) → nt_Mi l w yX1_readsOpened cX1_readsOpened 3 (some .boolean) (15 + nd) [.ref (nt_a w 10)] gg r gg2) {Q : State → Prop} (X : nt_X cX1_readsLevel 6 RX1 (some .boolean) w A p s m args meth c) (x1 : Int32) (x3 : Int32)  {Qx : ((Int32 × nt_T)) → Prop} (hE0 : ∀ (y2 : Int32) (gy : nt_T), Qx (y2, gy) → nt_G p l e (nt_rm (15 + (nd + 1))) s m args below meth c w A 0 0 Q 6 129 [(0, .ref (nt_a w 10)), (1, .int x1), (2, .int y2), (3, .int x3)] [] gy) : ∀ (n : Nat) (x2 : Int32) (x4 : Int32) (g : nt_T), nt_R (nt_it (fun z => bRd_readsLevel_78 F_readsLevel F_readsOpened x1 x3 z.1 z.2.1 z.2.2) n (x2, x4, g)) Qx → nt_G p l e (nt_rm (15 + (nd + 1))) s m args below meth c w A 0 0 Q 6 78 [(0, .ref (nt_a w 10)), (1, .int x1), (2, .int x2), (3, .int x3), (4, .int x4)] [] g := by
  intro n
  induction n with
  | zero =>
    intro x2 x4 g h
    exact nt_R_none h
  | succ n ih =>
    intro x2 x4 g h
    have h : nt_R (bRd_readsLevel_78 F_readsLevel F_readsOpened x1 x3 x2 x4 g) (nt_Qz (fun z => bRd_readsLevel_78 F_readsLevel F_readsOpened x1 x3 z.1 z.2.1 z.2.2) n Qx) := nt_R_it h
    have hI : ∀ (y2 : Int32) (y4 : Int32) (gy : nt_T), nt_Qz (fun z => bRd_readsLevel_78 F_readsLevel F_readsOpened x1 x3 z.1 z.2.1 z.2.2) n Qx (.inl (y2, y4, gy)) → nt_G p l e (nt_rm (15 + (nd + 1))) s m args below meth c w A 0 0 Q 6 78 [(0, .ref (nt_a w 10)), (1, .int x1), (2, .int y2), (3, .int x3), (4, .int y4)] [] gy := fun y2 y4 gy q => ih y2 y4 gy q
    have hE0 : ∀ (y2 : Int32) (gy : nt_T), nt_Qz (fun z => bRd_readsLevel_78 F_readsLevel F_readsOpened x1 x3 z.1 z.2.1 z.2.2) n Qx (.inr (y2, gy)) → nt_G p l e (nt_rm (15 + (nd + 1))) s m args below meth c w A 0 0 Q 6 129 [(0, .ref (nt_a w 10)), (1, .int x1), (2, .int y2), (3, .int x3)] [] gy := hE0
    generalize nt_Qz (fun z => bRd_readsLevel_78 F_readsLevel F_readsOpened x1 x3 z.1 z.2.1 z.2.2) n Qx = Qz at h hI hE0
    unfold bRd_readsLevel_78 at h
    refine nt_iload X dX1_readsLevel_78 4 rfl ?_
    refine nt_iload_n X dX1_readsLevel_80 rfl 3 rfl ?_
    obtain ⟨ht, hf⟩ := nt_R_if h
    refine nt_icmp_ge X 129 dX1_readsLevel_81 (by decide) (fun q6 => ?_) (fun q6 => ?_)
    · have h := ht q6
      refine nt_sub [0, 1, 2, 3] rfl ?_
      have h := nt_R_some h
      exact hE0 x2 g h
    · have h := hf q6
      refine nt_iload_n X dX1_readsLevel_84 rfl 2 rfl ?_
      obtain ⟨ht, hf⟩ := nt_R_if h
      refine nt_if_eq X 129 dX1_readsLevel_85 (by decide) (fun q7 => ?_) (fun q7 => ?_)
      · have h := ht q7
        refine nt_sub [0, 1, 2, 3] rfl ?_
        have h := nt_R_some h
        exact hE0 x2 g h
      · have h := hf q7
        refine nt_aload_n X dX1_readsLevel_88 rfl 0 rfl ?_
        refine nt_get X 10 inX1 (nt_lD hw (Nat.le_of_ble_eq_true rfl)) (nt_d10 hw) rfl (j := 3) (by decide) wd_64 (v := .int (g 10 3)) rfl dX1_readsLevel_89 ?_
        obtain ⟨r8, er8, h⟩ := nt_R_b1 h
        refine nt_cSi X (As := [.int (g 10 3)]) (cRd_levelOf hw er8) wd_220 wd_218 wd_219 wd_4 hd_X1_levelOf (nt_room (by omega) (by decide)) ⟨Nat.le_refl 0, Nat.le_refl 0⟩ (Nat.le_of_ble_eq_true rfl) rfl dX1_readsLevel_92 ?_
        refine nt_iload_n X dX1_readsLevel_95 rfl 1 rfl ?_
        obtain ⟨ht, hf⟩ := nt_R_if h
        refine nt_icmp_ne X 129 dX1_readsLevel_96 (by decide) (fun q9 => ?_) (fun q9 => ?_)
        · have h := hf q9
          refine nt_sub [0, 1, 2, 3] rfl ?_
          have h := nt_R_some h
          exact hE0 x2 g h
        · have h := ht q9
          refine nt_aload_n X dX1_readsLevel_99 rfl 0 rfl ?_
          refine nt_get X 10 inX1 (nt_lD hw (Nat.le_of_ble_eq_true rfl)) (nt_d10 hw) rfl (j := 3) (by decide) wd_64 (v := .int (g 10 3)) rfl dX1_readsLevel_100 ?_
          obtain ⟨v10, ev10, h⟩ := nt_R_lt h
          refine nt_topi ev10 ?_
          refine nt_istore X [(5, .int v10), (0, .ref (nt_a w 10)), (1, .int x1), (2, .int x2), (3, .int x3), (4, .int x4)] dX1_readsLevel_103 (by decide) rfl ?_
          refine nt_aload_n X dX1_readsLevel_105 rfl 1 rfl ?_
          obtain ⟨g11, eg11, h⟩ := nt_R_b1 h
          refine nt_cVv X (As := []) 10 (nt_lD hw (Nat.le_of_ble_eq_true rfl)) (nt_d10 hw) rfl (cRd_step hw eg11) wd_131 wd_129 wd_130 wd_1012 wd_4 rfl hd_X1_step (nt_room (by omega) (by decide)) ⟨Nat.le_refl 0, Nat.le_refl 0⟩ (Nat.le_of_ble_eq_true rfl) rfl dX1_readsLevel_106 ?_
          refine nt_aload_n X dX1_readsLevel_109 rfl 1 rfl ?_
          refine nt_iload_n X dX1_readsLevel_110 rfl 2 rfl ?_
          refine nt_iconst X dX1_readsLevel_111 nt_ci_1 ?_
          refine nt_iadd X dX1_readsLevel_112 ?_
          obtain ⟨r12, g13, er12, h⟩ := nt_R_b2 h
          refine nt_cVi X (As := [.int (x1 + (1 : Int32))]) 10 (nt_lD hw (Nat.le_of_ble_eq_true rfl)) (nt_d10 hw) rfl (HF_readsLevel er12) wd_208 wd_206 wd_207 wd_1016 wd_4 rfl hd_X1_readsLevel (nt_room (by omega) (by decide)) ⟨Nat.le_refl 0, Nat.le_refl 0⟩ (Nat.le_of_ble_eq_true rfl) rfl dX1_readsLevel_113 ?_
          refine nt_istore_n X [(2, .int r12), (5, .int v10), (0, .ref (nt_a w 10)), (1, .int x1), (3, .int x3), (4, .int x4)] dX1_readsLevel_116 rfl (by decide) rfl ?_
          refine nt_aload_n X dX1_readsLevel_117 rfl 2 rfl ?_
          refine nt_iload X dX1_readsLevel_118 1 rfl ?_
          obtain ⟨g14, eg14, h⟩ := nt_R_b1 h
          refine nt_cVv X (As := [.int v10]) 10 (nt_lD hw (Nat.le_of_ble_eq_true rfl)) (nt_d10 hw) rfl (cRd_write hw eg14) wd_214 wd_212 wd_213 wd_1018 wd_4 rfl hd_X1_write (nt_room (by omega) (by decide)) ⟨Nat.le_refl 0, Nat.le_refl 0⟩ (Nat.le_of_ble_eq_true rfl) rfl dX1_readsLevel_120 ?_
          obtain ⟨v15, ev15, h⟩ := nt_R_lt h
          refine nt_iinc X v15 [(4, .int v15), (2, .int r12), (5, .int v10), (0, .ref (nt_a w 10)), (1, .int x1), (3, .int x3)] dX1_readsLevel_123 5 rfl (by rw [nt_ci_1]; exact ev15) (by decide) rfl ?_
          refine nt_goto X 78 dX1_readsLevel_126 (by decide) ?_
          refine nt_sub [3, 4, 1, 5, 0] rfl ?_
          have h := nt_R_some h
          exact hI r12 v15 g14 h
def jRd_readsLevel_74 (F_readsLevel : Int32 → nt_T → Option (Int32 × nt_T)) (F_readsOpened : nt_T → Option (Int32 × nt_T)) (x1 : Int32) (x2 : Int32) (s0 : Int32) (g : nt_T) : Option (Int32 × nt_T) :=
  (nt_b1 (nt_it (fun z => bRd_readsLevel_78 F_readsLevel F_readsOpened x1 s0 z.1 z.2.1 z.2.2) nt_fu (x2, (0 : Int32), g)) fun z19 => match z19 with
  | (v16, g17) => nt_gd (decide (narrow .boolean (.int v16) = .int v16)) <| some (v16, g17))
set_option maxRecDepth 100000 in
set_option maxHeartbeats 4000000 in
theorem tjRd_readsLevel_74 {p : Program} {l : Launch} {e : Env} {s : State} {m : MethodId} {args : Array Value} {below : List Frame} {meth : Method} {c : Code} {w : nt_w} {A : Nat → Prop} {nd : Nat} {F_readsLevel : Int32 → nt_T → Option (Int32 × nt_T)} {F_readsOpened : nt_T → Option (Int32 × nt_T)} (hw : nt_isD w) (HF_readsLevel : ∀ {a0 : Int32} {gg : nt_T} {r : Int32} {gg2 : nt_T}, F_readsLevel a0 gg = some (r, gg2) → nt_Mi l w yX1_readsLevel cX1_readsLevel 6 (some .boolean) (15 + nd) [.ref (nt_a w 10), .int a0] gg r gg2) (HF_readsOpened : ∀ {gg : nt_T} {r : Int32} {gg2 : nt_T}, F_readsOpened gg = some (r, gg2) → nt_Mi l w yX1_readsOpened cX1_readsOpened 3 (some .boolean) (15 + nd) [.ref (nt_a w 10)] gg r gg2) {r : Int32} {g2 : nt_T}  (X : nt_X cX1_readsLevel 6 RX1 (some .boolean) w A p s m args meth c) (x1 : Int32) (x2 : Int32) (s0 : Int32) (g : nt_T) (h : nt_R (jRd_readsLevel_74 F_readsLevel F_readsOpened x1 x2 s0 g) (fun z => z = (r, g2))) : nt_G p l e (nt_rm (15 + (nd + 1))) s m args below meth c w A 0 0 (nt_Qi w A below args s r g2) 6 74 [(0, .ref (nt_a w 10)), (1, .int x1), (2, .int x2)] [.int s0] g := by
  unfold jRd_readsLevel_74 at h
  refine nt_istore_n X [(3, .int s0), (0, .ref (nt_a w 10)), (1, .int x1), (2, .int x2)] dX1_readsLevel_74 rfl (by decide) rfl ?_
  refine nt_iconst X dX1_readsLevel_75 nt_ci_0 ?_
  refine nt_istore X [(4, .int (0 : Int32)), (3, .int s0), (0, .ref (nt_a w 10)), (1, .int x1), (2, .int x2)] dX1_readsLevel_76 (by decide) rfl ?_
  obtain ⟨z19, hz19, h⟩ := nt_R_b1 h
  refine nt_sub [2, 3, 4, 1, 0] rfl ?_
  refine tbRd_readsLevel_78 hw HF_readsLevel HF_readsOpened X x1 s0 (Qx := fun z => z = z19) (fun v16 g17 hq => ?_) nt_fu x2 (0 : Int32) g ⟨_, hz19, rfl⟩
  subst hq
  refine nt_iload_n X dX1_readsLevel_129 rfl 2 rfl ?_
  obtain ⟨q18, h⟩ := nt_R_gd h
  have h := nt_R_some h
  exact nt_zret X (of_decide_eq_true q18) dX1_readsLevel_130 h
def jRd_readsLevel_42 (F_readsLevel : Int32 → nt_T → Option (Int32 × nt_T)) (F_readsOpened : nt_T → Option (Int32 × nt_T)) (g : nt_T) : Option (Int32 × nt_T) :=
  nt_b2 (F_readsOpened g) fun r21 g22 => nt_gd (decide (narrow .boolean (.int r21) = .int r21)) <| some (r21, g22)
set_option maxRecDepth 100000 in
set_option maxHeartbeats 4000000 in
theorem tjRd_readsLevel_42 {p : Program} {l : Launch} {e : Env} {s : State} {m : MethodId} {args : Array Value} {below : List Frame} {meth : Method} {c : Code} {w : nt_w} {A : Nat → Prop} {nd : Nat} {F_readsLevel : Int32 → nt_T → Option (Int32 × nt_T)} {F_readsOpened : nt_T → Option (Int32 × nt_T)} (hw : nt_isD w) (HF_readsLevel : ∀ {a0 : Int32} {gg : nt_T} {r : Int32} {gg2 : nt_T}, F_readsLevel a0 gg = some (r, gg2) → nt_Mi l w yX1_readsLevel cX1_readsLevel 6 (some .boolean) (15 + nd) [.ref (nt_a w 10), .int a0] gg r gg2) (HF_readsOpened : ∀ {gg : nt_T} {r : Int32} {gg2 : nt_T}, F_readsOpened gg = some (r, gg2) → nt_Mi l w yX1_readsOpened cX1_readsOpened 3 (some .boolean) (15 + nd) [.ref (nt_a w 10)] gg r gg2) {r : Int32} {g2 : nt_T}  (X : nt_X cX1_readsLevel 6 RX1 (some .boolean) w A p s m args meth c) (g : nt_T) (h : nt_R (jRd_readsLevel_42 F_readsLevel F_readsOpened g) (fun z => z = (r, g2))) : nt_G p l e (nt_rm (15 + (nd + 1))) s m args below meth c w A 0 0 (nt_Qi w A below args s r g2) 6 42 [(0, .ref (nt_a w 10))] [] g := by
  unfold jRd_readsLevel_42 at h
  refine nt_aload_n X dX1_readsLevel_42 rfl 0 rfl ?_
  obtain ⟨r21, g22, er21, h⟩ := nt_R_b2 h
  refine nt_cVi X (As := []) 10 (nt_lD hw (Nat.le_of_ble_eq_true rfl)) (nt_d10 hw) rfl (HF_readsOpened er21) wd_211 wd_209 wd_210 wd_1017 wd_4 rfl hd_X1_readsOpened (nt_room (by omega) (by decide)) ⟨Nat.le_refl 0, Nat.le_refl 0⟩ (Nat.le_of_ble_eq_true rfl) rfl dX1_readsLevel_43 ?_
  refine nt_goto X 53 dX1_readsLevel_46 (by decide) ?_
  obtain ⟨q23, h⟩ := nt_R_gd h
  have h := nt_R_some h
  exact nt_zret X (of_decide_eq_true q23) dX1_readsLevel_53 h
def jRd_readsLevel_19 (F_readsLevel : Int32 → nt_T → Option (Int32 × nt_T)) (F_readsOpened : nt_T → Option (Int32 × nt_T)) (x1 : Int32) (g : nt_T) : Option (Int32 × nt_T) :=
  (if x1 < (5 : Int32) then
    (nt_b2 (F_readsLevel (x1 + (1 : Int32)) g) fun r3 g4 => (if x1 = (2 : Int32) then
    (jRd_readsLevel_74 F_readsLevel F_readsOpened x1 r3 (1 : Int32) g4)
  else
    (jRd_readsLevel_74 F_readsLevel F_readsOpened x1 r3 (160 : Int32) g4)))
  else
    ((if (g 10 3) = (16 : Int32) then
    (jRd_readsLevel_42 F_readsLevel F_readsOpened g)
  else
    ((if (g 10 3) = (12 : Int32) then
    (jRd_readsLevel_42 F_readsLevel F_readsOpened g)
  else
    (nt_b2 (fRd_readsPlain g) fun r25 g26 => nt_gd (decide (narrow .boolean (.int r25) = .int r25)) <| some (r25, g26)))))))
set_option maxRecDepth 100000 in
set_option maxHeartbeats 4000000 in
theorem tjRd_readsLevel_19 {p : Program} {l : Launch} {e : Env} {s : State} {m : MethodId} {args : Array Value} {below : List Frame} {meth : Method} {c : Code} {w : nt_w} {A : Nat → Prop} {nd : Nat} {F_readsLevel : Int32 → nt_T → Option (Int32 × nt_T)} {F_readsOpened : nt_T → Option (Int32 × nt_T)} (hw : nt_isD w) (HF_readsLevel : ∀ {a0 : Int32} {gg : nt_T} {r : Int32} {gg2 : nt_T}, F_readsLevel a0 gg = some (r, gg2) → nt_Mi l w yX1_readsLevel cX1_readsLevel 6 (some .boolean) (15 + nd) [.ref (nt_a w 10), .int a0] gg r gg2) (HF_readsOpened : ∀ {gg : nt_T} {r : Int32} {gg2 : nt_T}, F_readsOpened gg = some (r, gg2) → nt_Mi l w yX1_readsOpened cX1_readsOpened 3 (some .boolean) (15 + nd) [.ref (nt_a w 10)] gg r gg2) {r : Int32} {g2 : nt_T}  (X : nt_X cX1_readsLevel 6 RX1 (some .boolean) w A p s m args meth c) (x1 : Int32) (g : nt_T) (h : nt_R (jRd_readsLevel_19 F_readsLevel F_readsOpened x1 g) (fun z => z = (r, g2))) : nt_G p l e (nt_rm (15 + (nd + 1))) s m args below meth c w A 0 0 (nt_Qi w A below args s r g2) 6 19 [(0, .ref (nt_a w 10)), (1, .int x1)] [] g := by
  unfold jRd_readsLevel_19 at h
  refine nt_iload_n X dX1_readsLevel_19 rfl 1 rfl ?_
  refine nt_iconst X dX1_readsLevel_20 nt_ci_5 ?_
  obtain ⟨ht, hf⟩ := nt_R_if h
  refine nt_icmp_lt X 54 dX1_readsLevel_21 (by decide) (fun q2 => ?_) (fun q2 => ?_)
  · have h := ht q2
    refine nt_aload_n X dX1_readsLevel_54 rfl 0 rfl ?_
    refine nt_iload_n X dX1_readsLevel_55 rfl 1 rfl ?_
    refine nt_iconst X dX1_readsLevel_56 nt_ci_1 ?_
    refine nt_iadd X dX1_readsLevel_57 ?_
    obtain ⟨r3, g4, er3, h⟩ := nt_R_b2 h
    refine nt_cVi X (As := [.int (x1 + (1 : Int32))]) 10 (nt_lD hw (Nat.le_of_ble_eq_true rfl)) (nt_d10 hw) rfl (HF_readsLevel er3) wd_208 wd_206 wd_207 wd_1016 wd_4 rfl hd_X1_readsLevel (nt_room (by omega) (by decide)) ⟨Nat.le_refl 0, Nat.le_refl 0⟩ (Nat.le_of_ble_eq_true rfl) rfl dX1_readsLevel_58 ?_
    refine nt_istore_n X [(2, .int r3), (0, .ref (nt_a w 10)), (1, .int x1)] dX1_readsLevel_61 rfl (by decide) rfl ?_
    refine nt_iload_n X dX1_readsLevel_62 rfl 2 rfl ?_
    refine nt_iconst X dX1_readsLevel_63 nt_ci_2 ?_
    obtain ⟨ht, hf⟩ := nt_R_if h
    refine nt_icmp_ne X 71 dX1_readsLevel_64 (by decide) (fun q5 => ?_) (fun q5 => ?_)
    · have h := hf q5
      refine nt_sipush X dX1_readsLevel_71 nt_cs_160 ?_
      refine nt_sub [1, 2, 0] rfl ?_
      exact tjRd_readsLevel_74 hw HF_readsLevel HF_readsOpened X x1 r3 (160 : Int32) g4 h
    · have h := ht q5
      refine nt_iconst X dX1_readsLevel_67 nt_ci_1 ?_
      refine nt_goto X 74 dX1_readsLevel_68 (by decide) ?_
      refine nt_sub [1, 2, 0] rfl ?_
      exact tjRd_readsLevel_74 hw HF_readsLevel HF_readsOpened X x1 r3 (1 : Int32) g4 h
  · have h := hf q2
    refine nt_aload_n X dX1_readsLevel_24 rfl 0 rfl ?_
    refine nt_get X 10 inX1 (nt_lD hw (Nat.le_of_ble_eq_true rfl)) (nt_d10 hw) rfl (j := 3) (by decide) wd_64 (v := .int (g 10 3)) rfl dX1_readsLevel_25 ?_
    refine nt_bipush X dX1_readsLevel_28 nt_cb_16 ?_
    obtain ⟨ht, hf⟩ := nt_R_if h
    refine nt_icmp_eq X 42 dX1_readsLevel_30 (by decide) (fun q20 => ?_) (fun q20 => ?_)
    · have h := ht q20
      refine nt_sub [0] rfl ?_
      exact tjRd_readsLevel_42 hw HF_readsLevel HF_readsOpened X g h
    · have h := hf q20
      refine nt_aload_n X dX1_readsLevel_33 rfl 0 rfl ?_
      refine nt_get X 10 inX1 (nt_lD hw (Nat.le_of_ble_eq_true rfl)) (nt_d10 hw) rfl (j := 3) (by decide) wd_64 (v := .int (g 10 3)) rfl dX1_readsLevel_34 ?_
      refine nt_bipush X dX1_readsLevel_37 nt_cb_12 ?_
      obtain ⟨ht, hf⟩ := nt_R_if h
      refine nt_icmp_ne X 49 dX1_readsLevel_39 (by decide) (fun q24 => ?_) (fun q24 => ?_)
      · have h := hf q24
        refine nt_aload_n X dX1_readsLevel_49 rfl 0 rfl ?_
        obtain ⟨r25, g26, er25, h⟩ := nt_R_b2 h
        refine nt_cVi X (As := []) 10 (nt_lD hw (Nat.le_of_ble_eq_true rfl)) (nt_d10 hw) rfl (cRd_readsPlain hw er25) wd_217 wd_215 wd_216 wd_1019 wd_4 rfl hd_X1_readsPlain (nt_room (by omega) (by decide)) ⟨Nat.le_refl 0, Nat.le_refl 0⟩ (Nat.le_of_ble_eq_true rfl) rfl dX1_readsLevel_50 ?_
        obtain ⟨q27, h⟩ := nt_R_gd h
        have h := nt_R_some h
        exact nt_zret X (of_decide_eq_true q27) dX1_readsLevel_53 h
      · have h := ht q24
        refine nt_sub [0] rfl ?_
        exact tjRd_readsLevel_42 hw HF_readsLevel HF_readsOpened X g h
def FRd_readsLevel (F_readsLevel : Int32 → nt_T → Option (Int32 × nt_T)) (F_readsOpened : nt_T → Option (Int32 × nt_T)) (x1 : Int32) (g : nt_T) : Option (Int32 × nt_T) :=
  (if x1 = (2 : Int32) then
    ((if (g 10 3) = (8 : Int32) then
    (nt_b2 (F_readsOpened g) fun r29 g30 => nt_gd (decide (narrow .boolean (.int r29) = .int r29)) <| some (r29, g30))
  else
    (jRd_readsLevel_19 F_readsLevel F_readsOpened x1 g)))
  else
    (jRd_readsLevel_19 F_readsLevel F_readsOpened x1 g))
set_option maxRecDepth 100000 in
set_option maxHeartbeats 4000000 in
theorem CRd_readsLevel {l : Launch} {w : nt_w} (hw : nt_isD w) {nd : Nat} {F_readsLevel : Int32 → nt_T → Option (Int32 × nt_T)} {F_readsOpened : nt_T → Option (Int32 × nt_T)} (HF_readsLevel : ∀ {a0 : Int32} {gg : nt_T} {r : Int32} {gg2 : nt_T}, F_readsLevel a0 gg = some (r, gg2) → nt_Mi l w yX1_readsLevel cX1_readsLevel 6 (some .boolean) (15 + nd) [.ref (nt_a w 10), .int a0] gg r gg2) (HF_readsOpened : ∀ {gg : nt_T} {r : Int32} {gg2 : nt_T}, F_readsOpened gg = some (r, gg2) → nt_Mi l w yX1_readsOpened cX1_readsOpened 3 (some .boolean) (15 + nd) [.ref (nt_a w 10)] gg r gg2) {x1 : Int32} {g : nt_T} {r : Int32} {g2 : nt_T} (hf : FRd_readsLevel F_readsLevel F_readsOpened x1 g = some (r, g2)) : nt_Mi l w yX1_readsLevel cX1_readsLevel 6 (some .boolean) (15 + (nd + 1)) [.ref (nt_a w 10), .int x1] g r g2 := by
  refine nt_Mi_of (by decide) (Nat.le_of_ble_eq_true rfl) (fun p e s m args below meth c A X => ?_)
  have X : nt_X cX1_readsLevel 6 RX1 (some .boolean) w A p s m args meth c := X
  have h : nt_R (FRd_readsLevel F_readsLevel F_readsOpened x1 g) (fun z => z = (r, g2)) := ⟨_, hf, rfl⟩
  unfold FRd_readsLevel at h
  show nt_G p l e (nt_rm (15 + (nd + 1))) s m args below meth c w A 0 0 (nt_Qi w A below args s r g2) 6 0 [(0, .ref (nt_a w 10)), (1, .int x1)] [] g
  refine nt_iload_n X dX1_readsLevel_0 rfl 1 rfl ?_
  refine nt_iconst X dX1_readsLevel_1 nt_ci_2 ?_
  obtain ⟨ht, hf⟩ := nt_R_if h
  refine nt_icmp_ne X 19 dX1_readsLevel_2 (by decide) (fun q1 => ?_) (fun q1 => ?_)
  · have h := hf q1
    exact tjRd_readsLevel_19 hw HF_readsLevel HF_readsOpened X x1 g h
  · have h := ht q1
    refine nt_aload_n X dX1_readsLevel_5 rfl 0 rfl ?_
    refine nt_get X 10 inX1 (nt_lD hw (Nat.le_of_ble_eq_true rfl)) (nt_d10 hw) rfl (j := 3) (by decide) wd_64 (v := .int (g 10 3)) rfl dX1_readsLevel_6 ?_
    refine nt_bipush X dX1_readsLevel_9 nt_cb_8 ?_
    obtain ⟨ht, hf⟩ := nt_R_if h
    refine nt_icmp_ne X 19 dX1_readsLevel_11 (by decide) (fun q28 => ?_) (fun q28 => ?_)
    · have h := hf q28
      exact tjRd_readsLevel_19 hw HF_readsLevel HF_readsOpened X x1 g h
    · have h := ht q28
      refine nt_aload_n X dX1_readsLevel_14 rfl 0 rfl ?_
      obtain ⟨r29, g30, er29, h⟩ := nt_R_b2 h
      refine nt_cVi X (As := []) 10 (nt_lD hw (Nat.le_of_ble_eq_true rfl)) (nt_d10 hw) rfl (HF_readsOpened er29) wd_211 wd_209 wd_210 wd_1017 wd_4 rfl hd_X1_readsOpened (nt_room (by omega) (by decide)) ⟨Nat.le_refl 0, Nat.le_refl 0⟩ (Nat.le_of_ble_eq_true rfl) rfl dX1_readsLevel_15 ?_
      obtain ⟨q31, h⟩ := nt_R_gd h
      have h := nt_R_some h
      exact nt_zret X (of_decide_eq_true q31) dX1_readsLevel_18 h
def jRd_readsOpened_94 (F_readsLevel : Int32 → nt_T → Option (Int32 × nt_T)) (x2 : Int32) (g : nt_T) : Option (Int32 × nt_T) :=
  nt_lt (nt_st g 10 5 ((g 10 5) - (1 : Int32))) fun g11 => nt_gd (decide (narrow .boolean (.int x2) = .int x2)) <| some (x2, g11)
set_option maxRecDepth 100000 in
set_option maxHeartbeats 4000000 in
theorem tjRd_readsOpened_94 {p : Program} {l : Launch} {e : Env} {s : State} {m : MethodId} {args : Array Value} {below : List Frame} {meth : Method} {c : Code} {w : nt_w} {A : Nat → Prop} {nd : Nat} {F_readsLevel : Int32 → nt_T → Option (Int32 × nt_T)} (hw : nt_isD w) (HF_readsLevel : ∀ {a0 : Int32} {gg : nt_T} {r : Int32} {gg2 : nt_T}, F_readsLevel a0 gg = some (r, gg2) → nt_Mi l w yX1_readsLevel cX1_readsLevel 6 (some .boolean) (15 + nd) [.ref (nt_a w 10), .int a0] gg r gg2) {r : Int32} {g2 : nt_T}  (X : nt_X cX1_readsOpened 3 RX1 (some .boolean) w A p s m args meth c) (x2 : Int32) (g : nt_T) (h : nt_R (jRd_readsOpened_94 F_readsLevel x2 g) (fun z => z = (r, g2))) : nt_G p l e (nt_rm (15 + (nd + 1))) s m args below meth c w A 0 0 (nt_Qi w A below args s r g2) 3 94 [(0, .ref (nt_a w 10)), (2, .int x2)] [] g := by
  unfold jRd_readsOpened_94 at h
  refine nt_aload_n X dX1_readsOpened_94 rfl 0 rfl ?_
  refine nt_dup X dX1_readsOpened_95 rfl ?_
  refine nt_get X 10 inX1 (nt_lD hw (Nat.le_of_ble_eq_true rfl)) (nt_d10 hw) rfl (j := 5) (by decide) wd_66 (v := .int (g 10 5)) rfl dX1_readsOpened_96 ?_
  refine nt_iconst X dX1_readsOpened_99 nt_ci_1 ?_
  refine nt_isub X dX1_readsOpened_100 ?_
  refine nt_put X 10 inX1 (nt_lD hw (Nat.le_of_ble_eq_true rfl)) (nt_d10 hw) rfl (j := 5) (by decide) wd_66 tyX1 tyX1_ok nmX1 rfl (ty := .int) rfl rfl rfl (fun _ => Nat.le_of_ble_eq_true rfl) (fun _ => rfl) dX1_readsOpened_101 ?_
  obtain ⟨g11, eg11, h⟩ := nt_R_lt h
  refine nt_geq eg11 ?_
  refine nt_iload_n X dX1_readsOpened_104 rfl 1 rfl ?_
  obtain ⟨q12, h⟩ := nt_R_gd h
  have h := nt_R_some h
  exact nt_zret X (of_decide_eq_true q12) dX1_readsOpened_105 h
def jRd_readsOpened_91 (F_readsLevel : Int32 → nt_T → Option (Int32 × nt_T)) (x2 : Int32) (s0 : Int32) (g : nt_T) : Option (Int32 × nt_T) :=
  nt_b1 (fRd_write s0 g) fun g10 => jRd_readsOpened_94 F_readsLevel x2 g10
set_option maxRecDepth 100000 in
set_option maxHeartbeats 4000000 in
theorem tjRd_readsOpened_91 {p : Program} {l : Launch} {e : Env} {s : State} {m : MethodId} {args : Array Value} {below : List Frame} {meth : Method} {c : Code} {w : nt_w} {A : Nat → Prop} {nd : Nat} {F_readsLevel : Int32 → nt_T → Option (Int32 × nt_T)} (hw : nt_isD w) (HF_readsLevel : ∀ {a0 : Int32} {gg : nt_T} {r : Int32} {gg2 : nt_T}, F_readsLevel a0 gg = some (r, gg2) → nt_Mi l w yX1_readsLevel cX1_readsLevel 6 (some .boolean) (15 + nd) [.ref (nt_a w 10), .int a0] gg r gg2) {r : Int32} {g2 : nt_T}  (X : nt_X cX1_readsOpened 3 RX1 (some .boolean) w A p s m args meth c) (x2 : Int32) (s0 : Int32) (g : nt_T) (h : nt_R (jRd_readsOpened_91 F_readsLevel x2 s0 g) (fun z => z = (r, g2))) : nt_G p l e (nt_rm (15 + (nd + 1))) s m args below meth c w A 0 0 (nt_Qi w A below args s r g2) 3 91 [(0, .ref (nt_a w 10)), (2, .int x2)] [.int s0, .ref (nt_a w 10)] g := by
  unfold jRd_readsOpened_91 at h
  obtain ⟨g10, eg10, h⟩ := nt_R_b1 h
  refine nt_cVv X (As := [.int s0]) 10 (nt_lD hw (Nat.le_of_ble_eq_true rfl)) (nt_d10 hw) rfl (cRd_write hw eg10) wd_214 wd_212 wd_213 wd_1018 wd_4 rfl hd_X1_write (nt_room (by omega) (by decide)) ⟨Nat.le_refl 0, Nat.le_refl 0⟩ (Nat.le_of_ble_eq_true rfl) rfl dX1_readsOpened_91 ?_
  exact tjRd_readsOpened_94 hw HF_readsLevel X x2 g10 h
def jRd_readsOpened_73 (F_readsLevel : Int32 → nt_T → Option (Int32 × nt_T)) (x1 : Int32) (s0 : Int32) (g : nt_T) : Option (Int32 × nt_T) :=
  nt_b2 (F_readsLevel s0 g) fun r7 g8 => (if x1 = (8 : Int32) then
    (jRd_readsOpened_91 F_readsLevel r7 (8 : Int32) g8)
  else
    (jRd_readsOpened_91 F_readsLevel r7 (20 : Int32) g8))
set_option maxRecDepth 100000 in
set_option maxHeartbeats 4000000 in
theorem tjRd_readsOpened_73 {p : Program} {l : Launch} {e : Env} {s : State} {m : MethodId} {args : Array Value} {below : List Frame} {meth : Method} {c : Code} {w : nt_w} {A : Nat → Prop} {nd : Nat} {F_readsLevel : Int32 → nt_T → Option (Int32 × nt_T)} (hw : nt_isD w) (HF_readsLevel : ∀ {a0 : Int32} {gg : nt_T} {r : Int32} {gg2 : nt_T}, F_readsLevel a0 gg = some (r, gg2) → nt_Mi l w yX1_readsLevel cX1_readsLevel 6 (some .boolean) (15 + nd) [.ref (nt_a w 10), .int a0] gg r gg2) {r : Int32} {g2 : nt_T}  (X : nt_X cX1_readsOpened 3 RX1 (some .boolean) w A p s m args meth c) (x1 : Int32) (s0 : Int32) (g : nt_T) (h : nt_R (jRd_readsOpened_73 F_readsLevel x1 s0 g) (fun z => z = (r, g2))) : nt_G p l e (nt_rm (15 + (nd + 1))) s m args below meth c w A 0 0 (nt_Qi w A below args s r g2) 3 73 [(0, .ref (nt_a w 10)), (1, .int x1)] [.int s0, .ref (nt_a w 10)] g := by
  unfold jRd_readsOpened_73 at h
  obtain ⟨r7, g8, er7, h⟩ := nt_R_b2 h
  refine nt_cVi X (As := [.int s0]) 10 (nt_lD hw (Nat.le_of_ble_eq_true rfl)) (nt_d10 hw) rfl (HF_readsLevel er7) wd_208 wd_206 wd_207 wd_1016 wd_4 rfl hd_X1_readsLevel (nt_room (by omega) (by decide)) ⟨Nat.le_refl 0, Nat.le_refl 0⟩ (Nat.le_of_ble_eq_true rfl) rfl dX1_readsOpened_73 ?_
  refine nt_istore_n X [(2, .int r7), (0, .ref (nt_a w 10)), (1, .int x1)] dX1_readsOpened_76 rfl (by decide) rfl ?_
  refine nt_aload_n X dX1_readsOpened_77 rfl 1 rfl ?_
  refine nt_iload_n X dX1_readsOpened_78 rfl 2 rfl ?_
  refine nt_bipush X dX1_readsOpened_79 nt_cb_8 ?_
  obtain ⟨ht, hf⟩ := nt_R_if h
  refine nt_icmp_ne X 89 dX1_readsOpened_81 (by decide) (fun q9 => ?_) (fun q9 => ?_)
  · have h := hf q9
    refine nt_bipush X dX1_readsOpened_89 nt_cb_20 ?_
    refine nt_sub [1, 0] rfl ?_
    exact tjRd_readsOpened_91 hw HF_readsLevel X r7 (20 : Int32) g8 h
  · have h := ht q9
    refine nt_bipush X dX1_readsOpened_84 nt_cb_8 ?_
    refine nt_goto X 91 dX1_readsOpened_86 (by decide) ?_
    refine nt_sub [1, 0] rfl ?_
    exact tjRd_readsOpened_91 hw HF_readsLevel X r7 (8 : Int32) g8 h
def jRd_readsOpened_57 (F_readsLevel : Int32 → nt_T → Option (Int32 × nt_T)) (s0 : Int32) (g : nt_T) : Option (Int32 × nt_T) :=
  jRd_readsOpened_94 F_readsLevel s0 g
set_option maxRecDepth 100000 in
set_option maxHeartbeats 4000000 in
theorem tjRd_readsOpened_57 {p : Program} {l : Launch} {e : Env} {s : State} {m : MethodId} {args : Array Value} {below : List Frame} {meth : Method} {c : Code} {w : nt_w} {A : Nat → Prop} {nd : Nat} {F_readsLevel : Int32 → nt_T → Option (Int32 × nt_T)} (hw : nt_isD w) (HF_readsLevel : ∀ {a0 : Int32} {gg : nt_T} {r : Int32} {gg2 : nt_T}, F_readsLevel a0 gg = some (r, gg2) → nt_Mi l w yX1_readsLevel cX1_readsLevel 6 (some .boolean) (15 + nd) [.ref (nt_a w 10), .int a0] gg r gg2) {r : Int32} {g2 : nt_T}  (X : nt_X cX1_readsOpened 3 RX1 (some .boolean) w A p s m args meth c) (s0 : Int32) (g : nt_T) (h : nt_R (jRd_readsOpened_57 F_readsLevel s0 g) (fun z => z = (r, g2))) : nt_G p l e (nt_rm (15 + (nd + 1))) s m args below meth c w A 0 0 (nt_Qi w A below args s r g2) 3 57 [(0, .ref (nt_a w 10))] [.int s0] g := by
  unfold jRd_readsOpened_57 at h
  refine nt_istore_n X [(2, .int s0), (0, .ref (nt_a w 10))] dX1_readsOpened_57 rfl (by decide) rfl ?_
  refine nt_goto X 94 dX1_readsOpened_58 (by decide) ?_
  refine nt_sub [1, 0] rfl ?_
  exact tjRd_readsOpened_94 hw HF_readsLevel X s0 g h
def jRd_readsOpened_56 (F_readsLevel : Int32 → nt_T → Option (Int32 × nt_T)) (g : nt_T) : Option (Int32 × nt_T) :=
  jRd_readsOpened_57 F_readsLevel (0 : Int32) g
set_option maxRecDepth 100000 in
set_option maxHeartbeats 4000000 in
theorem tjRd_readsOpened_56 {p : Program} {l : Launch} {e : Env} {s : State} {m : MethodId} {args : Array Value} {below : List Frame} {meth : Method} {c : Code} {w : nt_w} {A : Nat → Prop} {nd : Nat} {F_readsLevel : Int32 → nt_T → Option (Int32 × nt_T)} (hw : nt_isD w) (HF_readsLevel : ∀ {a0 : Int32} {gg : nt_T} {r : Int32} {gg2 : nt_T}, F_readsLevel a0 gg = some (r, gg2) → nt_Mi l w yX1_readsLevel cX1_readsLevel 6 (some .boolean) (15 + nd) [.ref (nt_a w 10), .int a0] gg r gg2) {r : Int32} {g2 : nt_T}  (X : nt_X cX1_readsOpened 3 RX1 (some .boolean) w A p s m args meth c) (g : nt_T) (h : nt_R (jRd_readsOpened_56 F_readsLevel g) (fun z => z = (r, g2))) : nt_G p l e (nt_rm (15 + (nd + 1))) s m args below meth c w A 0 0 (nt_Qi w A below args s r g2) 3 56 [(0, .ref (nt_a w 10))] [] g := by
  unfold jRd_readsOpened_56 at h
  refine nt_iconst X dX1_readsOpened_56 nt_ci_0 ?_
  exact tjRd_readsOpened_57 hw HF_readsLevel X (0 : Int32) g h
def FRd_readsOpened (F_readsLevel : Int32 → nt_T → Option (Int32 × nt_T)) (g : nt_T) : Option (Int32 × nt_T) :=
  nt_lt (g 10 3) fun v1 => (if (g 10 5) < (5 : Int32) then
    (nt_lt (nt_st g 10 5 ((g 10 5) + (1 : Int32))) fun g3 => nt_b1 (fRd_step g3) fun g4 => (if v1 = (12 : Int32) then
    (nt_b2 (F_readsLevel (0 : Int32) g4) fun r13 g14 => (if r13 = 0 then
    (jRd_readsOpened_56 F_readsLevel g14)
  else
    (nt_b2 (fRd_takes (13 : Int32) g14) fun r16 g17 => (if r16 = 0 then
    (jRd_readsOpened_56 F_readsLevel g17)
  else
    (jRd_readsOpened_57 F_readsLevel (1 : Int32) g17)))))
  else
    ((if v1 = (8 : Int32) then
    (jRd_readsOpened_73 F_readsLevel v1 (2 : Int32) g4)
  else
    (jRd_readsOpened_73 F_readsLevel v1 (5 : Int32) g4)))))
  else
    (some ((0 : Int32), g)))
set_option maxRecDepth 100000 in
set_option maxHeartbeats 4000000 in
theorem CRd_readsOpened {l : Launch} {w : nt_w} (hw : nt_isD w) {nd : Nat} {F_readsLevel : Int32 → nt_T → Option (Int32 × nt_T)} (HF_readsLevel : ∀ {a0 : Int32} {gg : nt_T} {r : Int32} {gg2 : nt_T}, F_readsLevel a0 gg = some (r, gg2) → nt_Mi l w yX1_readsLevel cX1_readsLevel 6 (some .boolean) (15 + nd) [.ref (nt_a w 10), .int a0] gg r gg2) {g : nt_T} {r : Int32} {g2 : nt_T} (hf : FRd_readsOpened F_readsLevel g = some (r, g2)) : nt_Mi l w yX1_readsOpened cX1_readsOpened 3 (some .boolean) (15 + (nd + 1)) [.ref (nt_a w 10)] g r g2 := by
  refine nt_Mi_of (by decide) (Nat.le_of_ble_eq_true rfl) (fun p e s m args below meth c A X => ?_)
  have X : nt_X cX1_readsOpened 3 RX1 (some .boolean) w A p s m args meth c := X
  have h : nt_R (FRd_readsOpened F_readsLevel g) (fun z => z = (r, g2)) := ⟨_, hf, rfl⟩
  unfold FRd_readsOpened at h
  show nt_G p l e (nt_rm (15 + (nd + 1))) s m args below meth c w A 0 0 (nt_Qi w A below args s r g2) 3 0 [(0, .ref (nt_a w 10))] [] g
  refine nt_aload_n X dX1_readsOpened_0 rfl 0 rfl ?_
  refine nt_get X 10 inX1 (nt_lD hw (Nat.le_of_ble_eq_true rfl)) (nt_d10 hw) rfl (j := 3) (by decide) wd_64 (v := .int (g 10 3)) rfl dX1_readsOpened_1 ?_
  obtain ⟨v1, ev1, h⟩ := nt_R_lt h
  refine nt_topi ev1 ?_
  refine nt_istore_n X [(1, .int v1), (0, .ref (nt_a w 10))] dX1_readsOpened_4 rfl (by decide) rfl ?_
  refine nt_aload_n X dX1_readsOpened_5 rfl 1 rfl ?_
  refine nt_get X 10 inX1 (nt_lD hw (Nat.le_of_ble_eq_true rfl)) (nt_d10 hw) rfl (j := 5) (by decide) wd_66 (v := .int (g 10 5)) rfl dX1_readsOpened_6 ?_
  refine nt_iconst X dX1_readsOpened_9 nt_ci_5 ?_
  obtain ⟨ht, hf⟩ := nt_R_if h
  refine nt_icmp_lt X 15 dX1_readsOpened_10 (by decide) (fun q2 => ?_) (fun q2 => ?_)
  · have h := ht q2
    refine nt_aload_n X dX1_readsOpened_15 rfl 1 rfl ?_
    refine nt_dup X dX1_readsOpened_16 rfl ?_
    refine nt_get X 10 inX1 (nt_lD hw (Nat.le_of_ble_eq_true rfl)) (nt_d10 hw) rfl (j := 5) (by decide) wd_66 (v := .int (g 10 5)) rfl dX1_readsOpened_17 ?_
    refine nt_iconst X dX1_readsOpened_20 nt_ci_1 ?_
    refine nt_iadd X dX1_readsOpened_21 ?_
    refine nt_put X 10 inX1 (nt_lD hw (Nat.le_of_ble_eq_true rfl)) (nt_d10 hw) rfl (j := 5) (by decide) wd_66 tyX1 tyX1_ok nmX1 rfl (ty := .int) rfl rfl rfl (fun _ => Nat.le_of_ble_eq_true rfl) (fun _ => rfl) dX1_readsOpened_22 ?_
    obtain ⟨g3, eg3, h⟩ := nt_R_lt h
    refine nt_geq eg3 ?_
    refine nt_aload_n X dX1_readsOpened_25 rfl 1 rfl ?_
    obtain ⟨g4, eg4, h⟩ := nt_R_b1 h
    refine nt_cVv X (As := []) 10 (nt_lD hw (Nat.le_of_ble_eq_true rfl)) (nt_d10 hw) rfl (cRd_step hw eg4) wd_131 wd_129 wd_130 wd_1012 wd_4 rfl hd_X1_step (nt_room (by omega) (by decide)) ⟨Nat.le_refl 0, Nat.le_refl 0⟩ (Nat.le_of_ble_eq_true rfl) rfl dX1_readsOpened_26 ?_
    refine nt_iload_n X dX1_readsOpened_29 rfl 0 rfl ?_
    refine nt_bipush X dX1_readsOpened_30 nt_cb_12 ?_
    obtain ⟨ht, hf⟩ := nt_R_if h
    refine nt_icmp_ne X 61 dX1_readsOpened_32 (by decide) (fun q5 => ?_) (fun q5 => ?_)
    · have h := hf q5
      refine nt_aload_n X dX1_readsOpened_61 rfl 1 rfl ?_
      refine nt_iload_n X dX1_readsOpened_62 rfl 0 rfl ?_
      refine nt_bipush X dX1_readsOpened_63 nt_cb_8 ?_
      obtain ⟨ht, hf⟩ := nt_R_if h
      refine nt_icmp_ne X 72 dX1_readsOpened_65 (by decide) (fun q6 => ?_) (fun q6 => ?_)
      · have h := hf q6
        refine nt_iconst X dX1_readsOpened_72 nt_ci_5 ?_
        refine nt_sub [1, 0] rfl ?_
        exact tjRd_readsOpened_73 hw HF_readsLevel X v1 (5 : Int32) g4 h
      · have h := ht q6
        refine nt_iconst X dX1_readsOpened_68 nt_ci_2 ?_
        refine nt_goto X 73 dX1_readsOpened_69 (by decide) ?_
        refine nt_sub [1, 0] rfl ?_
        exact tjRd_readsOpened_73 hw HF_readsLevel X v1 (2 : Int32) g4 h
    · have h := ht q5
      refine nt_aload_n X dX1_readsOpened_35 rfl 1 rfl ?_
      refine nt_iconst X dX1_readsOpened_36 nt_ci_0 ?_
      obtain ⟨r13, g14, er13, h⟩ := nt_R_b2 h
      refine nt_cVi X (As := [.int (0 : Int32)]) 10 (nt_lD hw (Nat.le_of_ble_eq_true rfl)) (nt_d10 hw) rfl (HF_readsLevel er13) wd_208 wd_206 wd_207 wd_1016 wd_4 rfl hd_X1_readsLevel (nt_room (by omega) (by decide)) ⟨Nat.le_refl 0, Nat.le_refl 0⟩ (Nat.le_of_ble_eq_true rfl) rfl dX1_readsOpened_37 ?_
      obtain ⟨ht, hf⟩ := nt_R_if h
      refine nt_if_eq X 56 dX1_readsOpened_40 (by decide) (fun q15 => ?_) (fun q15 => ?_)
      · have h := ht q15
        refine nt_sub [1] rfl ?_
        exact tjRd_readsOpened_56 hw HF_readsLevel X g14 h
      · have h := hf q15
        refine nt_aload_n X dX1_readsOpened_43 rfl 1 rfl ?_
        refine nt_bipush X dX1_readsOpened_44 nt_cb_13 ?_
        obtain ⟨r16, g17, er16, h⟩ := nt_R_b2 h
        refine nt_cVi X (As := [.int (13 : Int32)]) 10 (nt_lD hw (Nat.le_of_ble_eq_true rfl)) (nt_d10 hw) rfl (cRd_takes hw er16) wd_205 wd_203 wd_204 wd_1015 wd_4 rfl hd_X1_takes (nt_room (by omega) (by decide)) ⟨Nat.le_refl 0, Nat.le_refl 0⟩ (Nat.le_of_ble_eq_true rfl) rfl dX1_readsOpened_46 ?_
        obtain ⟨ht, hf⟩ := nt_R_if h
        refine nt_if_eq X 56 dX1_readsOpened_49 (by decide) (fun q18 => ?_) (fun q18 => ?_)
        · have h := ht q18
          refine nt_sub [1] rfl ?_
          exact tjRd_readsOpened_56 hw HF_readsLevel X g17 h
        · have h := hf q18
          refine nt_iconst X dX1_readsOpened_52 nt_ci_1 ?_
          refine nt_goto X 57 dX1_readsOpened_53 (by decide) ?_
          refine nt_sub [1] rfl ?_
          exact tjRd_readsOpened_57 hw HF_readsLevel X (1 : Int32) g17 h
  · have h := hf q2
    refine nt_iconst X dX1_readsOpened_13 nt_ci_0 ?_
    have h := nt_R_some h
    exact nt_zret X rfl dX1_readsOpened_14 h
def kRd : Nat → (Int32 → nt_T → Option (Int32 × nt_T)) × (nt_T → Option (Int32 × nt_T))
  | 0 => (fun _ _ => none, fun _ => none)
  | n + 1 => (FRd_readsLevel (kRd n).1 (kRd n).2, FRd_readsOpened (kRd n).1)
theorem CkRd {l : Launch} {w : nt_w} (hw : nt_isD w) : ∀ n : Nat, (∀ {a0 : Int32} {gg : nt_T} {r : Int32} {gg2 : nt_T}, (kRd n).1 a0 gg = some (r, gg2) → nt_Mi l w yX1_readsLevel cX1_readsLevel 6 (some .boolean) (15 + n) [.ref (nt_a w 10), .int a0] gg r gg2) ∧ (∀ {gg : nt_T} {r : Int32} {gg2 : nt_T}, (kRd n).2 gg = some (r, gg2) → nt_Mi l w yX1_readsOpened cX1_readsOpened 3 (some .boolean) (15 + n) [.ref (nt_a w 10)] gg r gg2) := by
  intro n
  induction n with
  | zero => exact ⟨(fun h => by cases h), (fun h => by cases h)⟩
  | succ n ih => exact ⟨fun h => CRd_readsLevel hw ih.1 ih.2 h, fun h => CRd_readsOpened hw ih.1 h⟩
def fRd_readsLevel (a0 : Int32) (g : nt_T) : Option (Int32 × nt_T) := (kRd 60).1 a0 g
theorem cRd_readsLevel {l : Launch} {w : nt_w} (hw : nt_isD w) {a0 : Int32} {g : nt_T} {r : Int32} {g2 : nt_T} (hf : fRd_readsLevel a0 g = some (r, g2)) : nt_Mi l w yX1_readsLevel cX1_readsLevel 6 (some .boolean) 75 [.ref (nt_a w 10), .int a0] g r g2 := (CkRd hw 60).1 hf
def fRd_readsOpened (g : nt_T) : Option (Int32 × nt_T) := (kRd 60).2 g
theorem cRd_readsOpened {l : Launch} {w : nt_w} (hw : nt_isD w) {g : nt_T} {r : Int32} {g2 : nt_T} (hf : fRd_readsOpened g = some (r, g2)) : nt_Mi l w yX1_readsOpened cX1_readsOpened 3 (some .boolean) 75 [.ref (nt_a w 10)] g r g2 := (CkRd hw 60).2 hf
def bRd_reads_23 (x1 : Int32) (x2 : Int32) (g : nt_T) : Option ((Int32 × Int32 × nt_T) ⊕ ((Int32 × nt_T))) :=
  (if (3 : Int32) ≤ x2 then
    (some (.inr (x1, g)))
  else
    ((if x1 = 0 then
    (some (.inr (x1, g)))
  else
    (nt_gd (nt_in x2 3) <| nt_lt (nt_st g 13 (Int32.toNatClampNeg x2) (g 10 7)) fun g8 => nt_b2 (fRd_takes ((9 : Int32) + x2) g8) fun r9 g10 => (if r9 = 0 then
    (nt_lt (x2 + (1 : Int32)) fun v12 => some (.inl ((0 : Int32), v12, g10)))
  else
    (nt_b2 (fRd_readsLevel (0 : Int32) g10) fun r13 g14 => (if r13 = 0 then
    (nt_lt (x2 + (1 : Int32)) fun v16 => some (.inl ((0 : Int32), v16, g14)))
  else
    (nt_b2 (fRd_takes (14 : Int32) g14) fun r17 g18 => (if r17 = 0 then
    (nt_lt (x2 + (1 : Int32)) fun v20 => some (.inl ((0 : Int32), v20, g18)))
  else
    (nt_lt (x2 + (1 : Int32)) fun v21 => some (.inl ((1 : Int32), v21, g18))))))))))))
set_option maxRecDepth 100000 in
set_option maxHeartbeats 4000000 in
theorem tbRd_reads_23 {p : Program} {l : Launch} {e : Env} {s : State} {m : MethodId} {args : Array Value} {below : List Frame} {meth : Method} {c : Code} {w : nt_w} {A : Nat → Prop} (hw : nt_isD w) {Q : State → Prop} (X : nt_X cX1_reads 3 RX1 (some .boolean) w A p s m args meth c)  {Qx : ((Int32 × nt_T)) → Prop} (hE0 : ∀ (y1 : Int32) (gy : nt_T), Qx (y1, gy) → nt_G p l e (nt_rm 77) s m args below meth c w A 0 0 Q 3 82 [(0, .ref (nt_a w 10)), (1, .int y1)] [] gy) : ∀ (n : Nat) (x1 : Int32) (x2 : Int32) (g : nt_T), nt_R (nt_it (fun z => bRd_reads_23 z.1 z.2.1 z.2.2) n (x1, x2, g)) Qx → nt_G p l e (nt_rm 77) s m args below meth c w A 0 0 Q 3 23 [(0, .ref (nt_a w 10)), (1, .int x1), (2, .int x2)] [] g := by
  intro n
  induction n with
  | zero =>
    intro x1 x2 g h
    exact nt_R_none h
  | succ n ih =>
    intro x1 x2 g h
    have h : nt_R (bRd_reads_23 x1 x2 g) (nt_Qz (fun z => bRd_reads_23 z.1 z.2.1 z.2.2) n Qx) := nt_R_it h
    have hI : ∀ (y1 : Int32) (y2 : Int32) (gy : nt_T), nt_Qz (fun z => bRd_reads_23 z.1 z.2.1 z.2.2) n Qx (.inl (y1, y2, gy)) → nt_G p l e (nt_rm 77) s m args below meth c w A 0 0 Q 3 23 [(0, .ref (nt_a w 10)), (1, .int y1), (2, .int y2)] [] gy := fun y1 y2 gy q => ih y1 y2 gy q
    have hE0 : ∀ (y1 : Int32) (gy : nt_T), nt_Qz (fun z => bRd_reads_23 z.1 z.2.1 z.2.2) n Qx (.inr (y1, gy)) → nt_G p l e (nt_rm 77) s m args below meth c w A 0 0 Q 3 82 [(0, .ref (nt_a w 10)), (1, .int y1)] [] gy := hE0
    generalize nt_Qz (fun z => bRd_reads_23 z.1 z.2.1 z.2.2) n Qx = Qz at h hI hE0
    unfold bRd_reads_23 at h
    refine nt_iload_n X dX1_reads_23 rfl 2 rfl ?_
    refine nt_iconst X dX1_reads_24 nt_ci_3 ?_
    obtain ⟨ht, hf⟩ := nt_R_if h
    refine nt_icmp_ge X 82 dX1_reads_25 (by decide) (fun q5 => ?_) (fun q5 => ?_)
    · have h := ht q5
      refine nt_sub [0, 1] rfl ?_
      have h := nt_R_some h
      exact hE0 x1 g h
    · have h := hf q5
      refine nt_iload_n X dX1_reads_28 rfl 1 rfl ?_
      obtain ⟨ht, hf⟩ := nt_R_if h
      refine nt_if_eq X 82 dX1_reads_29 (by decide) (fun q6 => ?_) (fun q6 => ?_)
      · have h := ht q6
        refine nt_sub [0, 1] rfl ?_
        have h := nt_R_some h
        exact hE0 x1 g h
      · have h := hf q6
        refine nt_aload_n X dX1_reads_32 rfl 0 rfl ?_
        refine nt_get X 10 inX1 (nt_lD hw (Nat.le_of_ble_eq_true rfl)) (nt_d10 hw) rfl (j := 8) (by decide) wd_69 (v := .ref (nt_a w 13)) rfl dX1_reads_33 ?_
        refine nt_iload_n X dX1_reads_36 rfl 2 rfl ?_
        refine nt_aload_n X dX1_reads_37 rfl 0 rfl ?_
        refine nt_get X 10 inX1 (nt_lD hw (Nat.le_of_ble_eq_true rfl)) (nt_d10 hw) rfl (j := 7) (by decide) wd_68 (v := .int (g 10 7)) rfl dX1_reads_38 ?_
        obtain ⟨q7, h⟩ := nt_R_gd h
        refine nt_iast X 13 0 (nt_lD hw (Nat.le_of_ble_eq_true rfl)) (nt_d13 hw) (nt_tD hw) q7 dX1_reads_41 ?_
        obtain ⟨g8, eg8, h⟩ := nt_R_lt h
        refine nt_geq eg8 ?_
        refine nt_aload_n X dX1_reads_42 rfl 0 rfl ?_
        refine nt_bipush X dX1_reads_43 nt_cb_9 ?_
        refine nt_iload_n X dX1_reads_45 rfl 2 rfl ?_
        refine nt_iadd X dX1_reads_46 ?_
        obtain ⟨r9, g10, er9, h⟩ := nt_R_b2 h
        refine nt_cVi X (As := [.int ((9 : Int32) + x2)]) 10 (nt_lD hw (Nat.le_of_ble_eq_true rfl)) (nt_d10 hw) rfl (cRd_takes hw er9) wd_205 wd_203 wd_204 wd_1015 wd_4 rfl hd_X1_takes ⟨Nat.le_of_ble_eq_true rfl, Nat.le_of_ble_eq_true rfl⟩ ⟨Nat.le_refl 0, Nat.le_refl 0⟩ (Nat.le_of_ble_eq_true rfl) rfl dX1_reads_47 ?_
        obtain ⟨ht, hf⟩ := nt_R_if h
        refine nt_if_eq X 74 dX1_reads_50 (by decide) (fun q11 => ?_) (fun q11 => ?_)
        · have h := ht q11
          refine nt_iconst X dX1_reads_74 nt_ci_0 ?_
          refine nt_istore_n X [(1, .int (0 : Int32)), (0, .ref (nt_a w 10)), (2, .int x2)] dX1_reads_75 rfl (by decide) rfl ?_
          obtain ⟨v12, ev12, h⟩ := nt_R_lt h
          refine nt_iinc X v12 [(2, .int v12), (1, .int (0 : Int32)), (0, .ref (nt_a w 10))] dX1_reads_76 2 rfl (by rw [nt_ci_1]; exact ev12) (by decide) rfl ?_
          refine nt_goto X 23 dX1_reads_79 (by decide) ?_
          refine nt_sub [2, 1, 0] rfl ?_
          have h := nt_R_some h
          exact hI (0 : Int32) v12 g10 h
        · have h := hf q11
          refine nt_aload_n X dX1_reads_53 rfl 0 rfl ?_
          refine nt_iconst X dX1_reads_54 nt_ci_0 ?_
          obtain ⟨r13, g14, er13, h⟩ := nt_R_b2 h
          refine nt_cVi X (As := [.int (0 : Int32)]) 10 (nt_lD hw (Nat.le_of_ble_eq_true rfl)) (nt_d10 hw) rfl (cRd_readsLevel hw er13) wd_208 wd_206 wd_207 wd_1016 wd_4 rfl hd_X1_readsLevel ⟨Nat.le_of_ble_eq_true rfl, Nat.le_of_ble_eq_true rfl⟩ ⟨Nat.le_refl 0, Nat.le_refl 0⟩ (Nat.le_of_ble_eq_true rfl) rfl dX1_reads_55 ?_
          obtain ⟨ht, hf⟩ := nt_R_if h
          refine nt_if_eq X 74 dX1_reads_58 (by decide) (fun q15 => ?_) (fun q15 => ?_)
          · have h := ht q15
            refine nt_iconst X dX1_reads_74 nt_ci_0 ?_
            refine nt_istore_n X [(1, .int (0 : Int32)), (0, .ref (nt_a w 10)), (2, .int x2)] dX1_reads_75 rfl (by decide) rfl ?_
            obtain ⟨v16, ev16, h⟩ := nt_R_lt h
            refine nt_iinc X v16 [(2, .int v16), (1, .int (0 : Int32)), (0, .ref (nt_a w 10))] dX1_reads_76 2 rfl (by rw [nt_ci_1]; exact ev16) (by decide) rfl ?_
            refine nt_goto X 23 dX1_reads_79 (by decide) ?_
            refine nt_sub [2, 1, 0] rfl ?_
            have h := nt_R_some h
            exact hI (0 : Int32) v16 g14 h
          · have h := hf q15
            refine nt_aload_n X dX1_reads_61 rfl 0 rfl ?_
            refine nt_bipush X dX1_reads_62 nt_cb_14 ?_
            obtain ⟨r17, g18, er17, h⟩ := nt_R_b2 h
            refine nt_cVi X (As := [.int (14 : Int32)]) 10 (nt_lD hw (Nat.le_of_ble_eq_true rfl)) (nt_d10 hw) rfl (cRd_takes hw er17) wd_205 wd_203 wd_204 wd_1015 wd_4 rfl hd_X1_takes ⟨Nat.le_of_ble_eq_true rfl, Nat.le_of_ble_eq_true rfl⟩ ⟨Nat.le_refl 0, Nat.le_refl 0⟩ (Nat.le_of_ble_eq_true rfl) rfl dX1_reads_64 ?_
            obtain ⟨ht, hf⟩ := nt_R_if h
            refine nt_if_eq X 74 dX1_reads_67 (by decide) (fun q19 => ?_) (fun q19 => ?_)
            · have h := ht q19
              refine nt_iconst X dX1_reads_74 nt_ci_0 ?_
              refine nt_istore_n X [(1, .int (0 : Int32)), (0, .ref (nt_a w 10)), (2, .int x2)] dX1_reads_75 rfl (by decide) rfl ?_
              obtain ⟨v20, ev20, h⟩ := nt_R_lt h
              refine nt_iinc X v20 [(2, .int v20), (1, .int (0 : Int32)), (0, .ref (nt_a w 10))] dX1_reads_76 2 rfl (by rw [nt_ci_1]; exact ev20) (by decide) rfl ?_
              refine nt_goto X 23 dX1_reads_79 (by decide) ?_
              refine nt_sub [2, 1, 0] rfl ?_
              have h := nt_R_some h
              exact hI (0 : Int32) v20 g18 h
            · have h := hf q19
              refine nt_iconst X dX1_reads_70 nt_ci_1 ?_
              refine nt_goto X 75 dX1_reads_71 (by decide) ?_
              refine nt_istore_n X [(1, .int (1 : Int32)), (0, .ref (nt_a w 10)), (2, .int x2)] dX1_reads_75 rfl (by decide) rfl ?_
              obtain ⟨v21, ev21, h⟩ := nt_R_lt h
              refine nt_iinc X v21 [(2, .int v21), (1, .int (1 : Int32)), (0, .ref (nt_a w 10))] dX1_reads_76 2 rfl (by rw [nt_ci_1]; exact ev21) (by decide) rfl ?_
              refine nt_goto X 23 dX1_reads_79 (by decide) ?_
              refine nt_sub [2, 1, 0] rfl ?_
              have h := nt_R_some h
              exact hI (1 : Int32) v21 g18 h
def jRd_reads_82 (x1 : Int32) (g : nt_T) : Option (Int32 × nt_T) :=
  (if x1 = 0 then
    (some ((0 : Int32), g))
  else
    ((if (g 10 3) = (21 : Int32) then
    (some ((1 : Int32), g))
  else
    (some ((0 : Int32), g)))))
set_option maxRecDepth 100000 in
set_option maxHeartbeats 4000000 in
theorem tjRd_reads_82 {p : Program} {l : Launch} {e : Env} {s : State} {m : MethodId} {args : Array Value} {below : List Frame} {meth : Method} {c : Code} {w : nt_w} {A : Nat → Prop} (hw : nt_isD w) {r : Int32} {g2 : nt_T}  (X : nt_X cX1_reads 3 RX1 (some .boolean) w A p s m args meth c) (x1 : Int32) (g : nt_T) (h : nt_R (jRd_reads_82 x1 g) (fun z => z = (r, g2))) : nt_G p l e (nt_rm 77) s m args below meth c w A 0 0 (nt_Qi w A below args s r g2) 3 82 [(0, .ref (nt_a w 10)), (1, .int x1)] [] g := by
  unfold jRd_reads_82 at h
  refine nt_iload_n X dX1_reads_82 rfl 1 rfl ?_
  obtain ⟨ht, hf⟩ := nt_R_if h
  refine nt_if_eq X 99 dX1_reads_83 (by decide) (fun q24 => ?_) (fun q24 => ?_)
  · have h := ht q24
    refine nt_iconst X dX1_reads_99 nt_ci_0 ?_
    have h := nt_R_some h
    exact nt_zret X rfl dX1_reads_100 h
  · have h := hf q24
    refine nt_aload_n X dX1_reads_86 rfl 0 rfl ?_
    refine nt_get X 10 inX1 (nt_lD hw (Nat.le_of_ble_eq_true rfl)) (nt_d10 hw) rfl (j := 3) (by decide) wd_64 (v := .int (g 10 3)) rfl dX1_reads_87 ?_
    refine nt_bipush X dX1_reads_90 nt_cb_21 ?_
    obtain ⟨ht, hf⟩ := nt_R_if h
    refine nt_icmp_ne X 99 dX1_reads_92 (by decide) (fun q25 => ?_) (fun q25 => ?_)
    · have h := hf q25
      refine nt_iconst X dX1_reads_99 nt_ci_0 ?_
      have h := nt_R_some h
      exact nt_zret X rfl dX1_reads_100 h
    · have h := ht q25
      refine nt_iconst X dX1_reads_95 nt_ci_1 ?_
      refine nt_goto X 100 dX1_reads_96 (by decide) ?_
      have h := nt_R_some h
      exact nt_zret X rfl dX1_reads_100 h
def fRd_reads (g : nt_T) : Option (Int32 × nt_T) :=
  nt_lt (nt_st g 10 2 (0 : Int32)) fun g1 => nt_lt (nt_st g1 10 5 (0 : Int32)) fun g2 => nt_lt (nt_st g2 10 7 (0 : Int32)) fun g3 => nt_b1 (fRd_step g3) fun g4 => (nt_b1 (nt_it (fun z => bRd_reads_23 z.1 z.2.1 z.2.2) nt_fu ((1 : Int32), (0 : Int32), g4)) fun z26 => match z26 with
  | (v22, g23) => jRd_reads_82 v22 g23)
set_option maxRecDepth 100000 in
set_option maxHeartbeats 4000000 in
theorem cRd_reads {l : Launch} {w : nt_w} (hw : nt_isD w) {g : nt_T} {r : Int32} {g2 : nt_T} (hf : fRd_reads g = some (r, g2)) : nt_Mi l w yX1_reads cX1_reads 3 (some .boolean) 77 [.ref (nt_a w 10)] g r g2 := by
  refine nt_Mi_of (by decide) (Nat.le_of_ble_eq_true rfl) (fun p e s m args below meth c A X => ?_)
  have X : nt_X cX1_reads 3 RX1 (some .boolean) w A p s m args meth c := X
  have h : nt_R (fRd_reads g) (fun z => z = (r, g2)) := ⟨_, hf, rfl⟩
  unfold fRd_reads at h
  show nt_G p l e (nt_rm 77) s m args below meth c w A 0 0 (nt_Qi w A below args s r g2) 3 0 [(0, .ref (nt_a w 10))] [] g
  refine nt_aload_n X dX1_reads_0 rfl 0 rfl ?_
  refine nt_iconst X dX1_reads_1 nt_ci_0 ?_
  refine nt_put X 10 inX1 (nt_lD hw (Nat.le_of_ble_eq_true rfl)) (nt_d10 hw) rfl (j := 2) (by decide) wd_63 tyX1 tyX1_ok nmX1 rfl (ty := .int) rfl rfl rfl (fun _ => Nat.le_of_ble_eq_true rfl) (fun _ => rfl) dX1_reads_2 ?_
  obtain ⟨g1, eg1, h⟩ := nt_R_lt h
  refine nt_geq eg1 ?_
  refine nt_aload_n X dX1_reads_5 rfl 0 rfl ?_
  refine nt_iconst X dX1_reads_6 nt_ci_0 ?_
  refine nt_put X 10 inX1 (nt_lD hw (Nat.le_of_ble_eq_true rfl)) (nt_d10 hw) rfl (j := 5) (by decide) wd_66 tyX1 tyX1_ok nmX1 rfl (ty := .int) rfl rfl rfl (fun _ => Nat.le_of_ble_eq_true rfl) (fun _ => rfl) dX1_reads_7 ?_
  obtain ⟨g2, eg2, h⟩ := nt_R_lt h
  refine nt_geq eg2 ?_
  refine nt_aload_n X dX1_reads_10 rfl 0 rfl ?_
  refine nt_iconst X dX1_reads_11 nt_ci_0 ?_
  refine nt_put X 10 inX1 (nt_lD hw (Nat.le_of_ble_eq_true rfl)) (nt_d10 hw) rfl (j := 7) (by decide) wd_68 tyX1 tyX1_ok nmX1 rfl (ty := .int) rfl rfl rfl (fun _ => Nat.le_of_ble_eq_true rfl) (fun _ => rfl) dX1_reads_12 ?_
  obtain ⟨g3, eg3, h⟩ := nt_R_lt h
  refine nt_geq eg3 ?_
  refine nt_aload_n X dX1_reads_15 rfl 0 rfl ?_
  obtain ⟨g4, eg4, h⟩ := nt_R_b1 h
  refine nt_cVv X (As := []) 10 (nt_lD hw (Nat.le_of_ble_eq_true rfl)) (nt_d10 hw) rfl (cRd_step hw eg4) wd_131 wd_129 wd_130 wd_1012 wd_4 rfl hd_X1_step ⟨Nat.le_of_ble_eq_true rfl, Nat.le_of_ble_eq_true rfl⟩ ⟨Nat.le_refl 0, Nat.le_refl 0⟩ (Nat.le_of_ble_eq_true rfl) rfl dX1_reads_16 ?_
  refine nt_iconst X dX1_reads_19 nt_ci_1 ?_
  refine nt_istore_n X [(1, .int (1 : Int32)), (0, .ref (nt_a w 10))] dX1_reads_20 rfl (by decide) rfl ?_
  refine nt_iconst X dX1_reads_21 nt_ci_0 ?_
  refine nt_istore_n X [(2, .int (0 : Int32)), (1, .int (1 : Int32)), (0, .ref (nt_a w 10))] dX1_reads_22 rfl (by decide) rfl ?_
  obtain ⟨z26, hz26, h⟩ := nt_R_b1 h
  refine nt_sub [2, 1, 0] rfl ?_
  refine tbRd_reads_23 hw X  (Qx := fun z => z = z26) (fun v22 g23 hq => ?_) nt_fu (1 : Int32) (0 : Int32) g4 ⟨_, hz26, rfl⟩
  subst hq
  exact tjRd_reads_82 hw X v22 g23 h
