def bJl_indexOfChar_4cfef_7 (i : Nat) (x3 : Int32) (x4 : Int32) (g : nt_T) (x5 : Int32) : Option ((Int32) ⊕ ((Int32) ⊕ (Unit))) :=
  (if x3 ≤ x5 then
    (some (.inr (.inr ())))
  else
    (nt_gd (nt_in x5 (nt_len.getD i 0)) <| (if (nt_ch i x5) = x4 then
    (some (.inr (.inl x5)))
  else
    (nt_lt (x5 + (1 : Int32)) fun v5 => some (.inl v5)))))
set_option maxRecDepth 100000 in
set_option maxHeartbeats 4000000 in
theorem tbJl_indexOfChar_4cfef_7 {p : Program} {l : Launch} {e : Env} {s : State} {m : MethodId} {args : Array Value} {below : List Frame} {meth : Method} {c : Code} {w : nt_w} {A : Nat → Prop} {i : Nat} (hw : nt_isD w) (hi : i < 3) {Q : State → Prop} (X : nt_X cJ1_indexOfChar_4cfef 6 RJ1 (some .int) w A p s m args meth c) (x3 : Int32) (x4 : Int32) (g : nt_T)  {Qx : ((Int32) ⊕ (Unit)) → Prop} (hE0 : ∀ (y5 : Int32), Qx (.inl y5) → nt_G p l e (nt_rm 1) s m args below meth c w A 0 0 Q 6 22 [(0, .ref (w.2.2.1 (4 + i))), (3, .int x3), (4, .int x4), (5, .int y5)] [] g) (hE1 :  Qx (.inr ()) → nt_G p l e (nt_rm 1) s m args below meth c w A 0 0 Q 6 31 [(0, .ref (w.2.2.1 (4 + i))), (3, .int x3), (4, .int x4)] [] g) : ∀ (n : Nat) (x5 : Int32), nt_R (nt_it (fun z => bJl_indexOfChar_4cfef_7 i x3 x4 g z) n x5) Qx → nt_G p l e (nt_rm 1) s m args below meth c w A 0 0 Q 6 7 [(0, .ref (w.2.2.1 (4 + i))), (3, .int x3), (4, .int x4), (5, .int x5)] [] g := by
  intro n
  induction n with
  | zero =>
    intro x5 h
    exact nt_R_none h
  | succ n ih =>
    intro x5 h
    have h : nt_R (bJl_indexOfChar_4cfef_7 i x3 x4 g x5) (nt_Qz (fun z => bJl_indexOfChar_4cfef_7 i x3 x4 g z) n Qx) := nt_R_it h
    have hI : ∀ (y5 : Int32), nt_Qz (fun z => bJl_indexOfChar_4cfef_7 i x3 x4 g z) n Qx (.inl y5) → nt_G p l e (nt_rm 1) s m args below meth c w A 0 0 Q 6 7 [(0, .ref (w.2.2.1 (4 + i))), (3, .int x3), (4, .int x4), (5, .int y5)] [] g := fun y5 q => ih y5 q
    have hE0 : ∀ (y5 : Int32), nt_Qz (fun z => bJl_indexOfChar_4cfef_7 i x3 x4 g z) n Qx (.inr (.inl y5)) → nt_G p l e (nt_rm 1) s m args below meth c w A 0 0 Q 6 22 [(0, .ref (w.2.2.1 (4 + i))), (3, .int x3), (4, .int x4), (5, .int y5)] [] g := hE0
    have hE1 :  nt_Qz (fun z => bJl_indexOfChar_4cfef_7 i x3 x4 g z) n Qx (.inr (.inr ())) → nt_G p l e (nt_rm 1) s m args below meth c w A 0 0 Q 6 31 [(0, .ref (w.2.2.1 (4 + i))), (3, .int x3), (4, .int x4)] [] g := hE1
    generalize nt_Qz (fun z => bJl_indexOfChar_4cfef_7 i x3 x4 g z) n Qx = Qz at h hI hE0 hE1
    unfold bJl_indexOfChar_4cfef_7 at h
    refine nt_iload X dJ1_indexOfChar_4cfef_7 3 rfl ?_
    refine nt_iload_n X dJ1_indexOfChar_4cfef_9 rfl 1 rfl ?_
    obtain ⟨ht, hf⟩ := nt_R_if h
    refine nt_icmp_ge X 31 dJ1_indexOfChar_4cfef_10 (by decide) (fun q2 => ?_) (fun q2 => ?_)
    · have h := ht q2
      refine nt_sub [0, 1, 2] rfl ?_
      have h := nt_R_some h
      exact hE1 h
    · have h := hf q2
      refine nt_aload_n X dJ1_indexOfChar_4cfef_13 rfl 0 rfl ?_
      refine nt_iload X dJ1_indexOfChar_4cfef_14 3 rfl ?_
      obtain ⟨q3, h⟩ := nt_R_gd h
      refine nt_sbyt X hi q3 dJ1_indexOfChar_4cfef_16 ?_
      refine nt_iload X dJ1_indexOfChar_4cfef_17 2 rfl ?_
      obtain ⟨ht, hf⟩ := nt_R_if h
      refine nt_icmp_ne X 25 dJ1_indexOfChar_4cfef_19 (by decide) (fun q4 => ?_) (fun q4 => ?_)
      · have h := hf q4
        obtain ⟨v5, ev5, h⟩ := nt_R_lt h
        refine nt_iinc X v5 [(5, .int v5), (0, .ref (w.2.2.1 (4 + i))), (3, .int x3), (4, .int x4)] dJ1_indexOfChar_4cfef_25 3 rfl (by rw [nt_ci_1]; exact ev5) (by decide) rfl ?_
        refine nt_goto X 7 dJ1_indexOfChar_4cfef_28 (by decide) ?_
        refine nt_sub [1, 2, 3, 0] rfl ?_
        have h := nt_R_some h
        exact hI v5 h
      · have h := ht q4
        refine nt_sub [0, 1, 2, 3] rfl ?_
        have h := nt_R_some h
        exact hE0 x5 h
def fJl_indexOfChar_4cfef (i : Nat) (x1 : Int32) (x2 : Int32) (x3 : Int32) (g : nt_T) : Option (Int32) :=
  nt_lt (nt_i8 x1) fun v1 => (nt_b1 (nt_it (fun z => bJl_indexOfChar_4cfef_7 i x3 v1 g z) nt_fu x2) fun z7 => match z7 with
  | (.inl v6) => some v6
  | .inr (_) => some (-1 : Int32))
set_option maxRecDepth 100000 in
set_option maxHeartbeats 4000000 in
theorem cJl_indexOfChar_4cfef {l : Launch} {w : nt_w} (hw : nt_isD w) {i : Nat} (hi : i < 3) {x1 : Int32} {x2 : Int32} {x3 : Int32} {g : nt_T} {r : Int32} (hf : fJl_indexOfChar_4cfef i x1 x2 x3 g = some r) : nt_Mi l w yJ1_indexOfChar_4cfef cJ1_indexOfChar_4cfef 6 (some .int) 1 [.ref (w.2.2.1 (4 + i)), .int x1, .int x2, .int x3] g r g := by
  refine nt_Mi_of (by decide) (Nat.le_of_ble_eq_true rfl) (fun p e s m args below meth c A X => ?_)
  have X : nt_X cJ1_indexOfChar_4cfef 6 RJ1 (some .int) w A p s m args meth c := X
  have hg : g = g := rfl
  have h : nt_R (fJl_indexOfChar_4cfef i x1 x2 x3 g) (fun z => z = r) := ⟨_, hf, rfl⟩
  unfold fJl_indexOfChar_4cfef at h
  show nt_G p l e (nt_rm 1) s m args below meth c w A 0 0 (nt_Qi w A below args s r g) 6 0 [(0, .ref (w.2.2.1 (4 + i))), (1, .int x1), (2, .int x2), (3, .int x3)] [] g
  refine nt_iload_n X dJ1_indexOfChar_4cfef_0 rfl 1 rfl ?_
  refine nt_i2b X (v := nt_i8 x1) dJ1_indexOfChar_4cfef_1 rfl ?_
  obtain ⟨v1, ev1, h⟩ := nt_R_lt h
  refine nt_topi ev1 ?_
  refine nt_istore X [(4, .int v1), (0, .ref (w.2.2.1 (4 + i))), (1, .int x1), (2, .int x2), (3, .int x3)] dJ1_indexOfChar_4cfef_2 (by decide) rfl ?_
  refine nt_iload_n X dJ1_indexOfChar_4cfef_4 rfl 3 rfl ?_
  refine nt_istore X [(5, .int x2), (4, .int v1), (0, .ref (w.2.2.1 (4 + i))), (1, .int x1), (2, .int x2), (3, .int x3)] dJ1_indexOfChar_4cfef_5 (by decide) rfl ?_
  obtain ⟨z7, hz7, h⟩ := nt_R_b1 h
  refine nt_sub [2, 5, 1, 0] rfl ?_
  refine tbJl_indexOfChar_4cfef_7 hw hi X x3 v1 g (Qx := fun z => z = z7) (fun v6 hq => ?_) (fun hq => ?_) nt_fu x2 ⟨_, hz7, rfl⟩
  · subst hq
    refine nt_iload X dJ1_indexOfChar_4cfef_22 3 rfl ?_
    have h := nt_R_some h
    exact nt_iret X dJ1_indexOfChar_4cfef_24 (nt_pe h hg)
  · subst hq
    refine nt_iconst X dJ1_indexOfChar_4cfef_31 nt_ci_m1 ?_
    have h := nt_R_some h
    exact nt_iret X dJ1_indexOfChar_4cfef_32 (nt_pe h hg)
def fJs_isLatin1_aae02 (i : Nat) (g : nt_T) : Option (Int32) :=
  (if (1 : Int32) = 0 then
    (some (0 : Int32))
  else
    ((if (0 : Int32) = 0 then
    (some (1 : Int32))
  else
    (some (0 : Int32)))))
set_option maxRecDepth 100000 in
set_option maxHeartbeats 4000000 in
theorem cJs_isLatin1_aae02 {l : Launch} {w : nt_w} (hw : nt_isD w) {i : Nat} (hi : i < 3) {g : nt_T} {r : Int32} (hf : fJs_isLatin1_aae02 i g = some r) : nt_Mi l w yJ0_isLatin1_aae02 cJ0_isLatin1_aae02 1 (some .boolean) 1 [.ref (w.2.2.1 (1 + i))] g r g := by
  refine nt_Mi_of (by decide) (Nat.le_of_ble_eq_true rfl) (fun p e s m args below meth c A X => ?_)
  have X : nt_X cJ0_isLatin1_aae02 1 RJ0 (some .boolean) w A p s m args meth c := X
  have hg : g = g := rfl
  have h : nt_R (fJs_isLatin1_aae02 i g) (fun z => z = r) := ⟨_, hf, rfl⟩
  unfold fJs_isLatin1_aae02 at h
  show nt_G p l e (nt_rm 1) s m args below meth c w A 0 0 (nt_Qi w A below args s r g) 1 0 [(0, .ref (w.2.2.1 (1 + i)))] [] g
  refine nt_gcs X wd_89 dJ0_isLatin1_aae02_0 ?_
  obtain ⟨ht, hf⟩ := nt_R_if h
  refine nt_if_eq X 17 dJ0_isLatin1_aae02_3 (by decide) (fun q1 => ?_) (fun q1 => ?_)
  · have h := ht q1
    refine nt_iconst X dJ0_isLatin1_aae02_17 nt_ci_0 ?_
    have h := nt_R_some h
    exact nt_zret X rfl dJ0_isLatin1_aae02_18 (nt_pe h hg)
  · have h := hf q1
    refine nt_aload_n X dJ0_isLatin1_aae02_6 rfl 0 rfl ?_
    refine nt_scod X hi wd_1008 dJ0_isLatin1_aae02_7 ?_
    obtain ⟨ht, hf⟩ := nt_R_if h
    refine nt_if_ne X 17 dJ0_isLatin1_aae02_10 (by decide) (fun q2 => ?_) (fun q2 => ?_)
    · have h := hf q2
      refine nt_iconst X dJ0_isLatin1_aae02_17 nt_ci_0 ?_
      have h := nt_R_some h
      exact nt_zret X rfl dJ0_isLatin1_aae02_18 (nt_pe h hg)
    · have h := ht q2
      refine nt_iconst X dJ0_isLatin1_aae02_13 nt_ci_1 ?_
      refine nt_goto X 18 dJ0_isLatin1_aae02_14 (by decide) ?_
      have h := nt_R_some h
      exact nt_zret X rfl dJ0_isLatin1_aae02_18 (nt_pe h hg)
def fJs_coder_7d493 (i : Nat) (g : nt_T) : Option (Int32) :=
  (if (1 : Int32) = 0 then
    (some (1 : Int32))
  else
    (some (0 : Int32)))
set_option maxRecDepth 100000 in
set_option maxHeartbeats 4000000 in
theorem cJs_coder_7d493 {l : Launch} {w : nt_w} (hw : nt_isD w) {i : Nat} (hi : i < 3) {g : nt_T} {r : Int32} (hf : fJs_coder_7d493 i g = some r) : nt_Mi l w yJ0_coder_7d493 cJ0_coder_7d493 1 (some .byte) 1 [.ref (w.2.2.1 (1 + i))] g r g := by
  refine nt_Mi_of (by decide) (Nat.le_of_ble_eq_true rfl) (fun p e s m args below meth c A X => ?_)
  have X : nt_X cJ0_coder_7d493 1 RJ0 (some .byte) w A p s m args meth c := X
  have hg : g = g := rfl
  have h : nt_R (fJs_coder_7d493 i g) (fun z => z = r) := ⟨_, hf, rfl⟩
  unfold fJs_coder_7d493 at h
  show nt_G p l e (nt_rm 1) s m args below meth c w A 0 0 (nt_Qi w A below args s r g) 1 0 [(0, .ref (w.2.2.1 (1 + i)))] [] g
  refine nt_gcs X wd_89 dJ0_coder_7d493_0 ?_
  obtain ⟨ht, hf⟩ := nt_R_if h
  refine nt_if_eq X 13 dJ0_coder_7d493_3 (by decide) (fun q1 => ?_) (fun q1 => ?_)
  · have h := ht q1
    refine nt_iconst X dJ0_coder_7d493_13 nt_ci_1 ?_
    have h := nt_R_some h
    exact nt_zret X rfl dJ0_coder_7d493_14 (nt_pe h hg)
  · have h := hf q1
    refine nt_aload_n X dJ0_coder_7d493_6 rfl 0 rfl ?_
    refine nt_scod X hi wd_1008 dJ0_coder_7d493_7 ?_
    refine nt_goto X 14 dJ0_coder_7d493_10 (by decide) ?_
    have h := nt_R_some h
    exact nt_zret X rfl dJ0_coder_7d493_14 (nt_pe h hg)
def fJs_length_8abf5 (i : Nat) (g : nt_T) : Option (Int32) :=
  nt_b1 (fJs_coder_7d493 i g) fun r1 => some ((Int32.ofNat (nt_len.getD i 0)) >>> (r1 &&& 31))
set_option maxRecDepth 100000 in
set_option maxHeartbeats 4000000 in
theorem cJs_length_8abf5 {l : Launch} {w : nt_w} (hw : nt_isD w) {i : Nat} (hi : i < 3) {g : nt_T} {r : Int32} (hf : fJs_length_8abf5 i g = some r) : nt_Mi l w yJ0_length_8abf5 cJ0_length_8abf5 1 (some .int) 3 [.ref (w.2.2.1 (1 + i))] g r g := by
  refine nt_Mi_of (by decide) (Nat.le_of_ble_eq_true rfl) (fun p e s m args below meth c A X => ?_)
  have X : nt_X cJ0_length_8abf5 1 RJ0 (some .int) w A p s m args meth c := X
  have hg : g = g := rfl
  have h : nt_R (fJs_length_8abf5 i g) (fun z => z = r) := ⟨_, hf, rfl⟩
  unfold fJs_length_8abf5 at h
  show nt_G p l e (nt_rm 3) s m args below meth c w A 0 0 (nt_Qi w A below args s r g) 1 0 [(0, .ref (w.2.2.1 (1 + i)))] [] g
  refine nt_aload_n X dJ0_length_8abf5_0 rfl 0 rfl ?_
  refine nt_sval X hi wd_1007 dJ0_length_8abf5_1 ?_
  refine nt_slen X hi dJ0_length_8abf5_4 ?_
  refine nt_aload_n X dJ0_length_8abf5_5 rfl 0 rfl ?_
  obtain ⟨r1, er1, h⟩ := nt_R_b1 h
  refine nt_cKi X (As := []) hi (cJs_coder_7d493 hw hi er1) wd_88 wd_85 wd_86 wd_87 wd_5 rfl hd_J0_coder_7d493 ⟨Nat.le_of_ble_eq_true rfl, Nat.le_of_ble_eq_true rfl⟩ ⟨Nat.le_refl 0, Nat.le_refl 0⟩ (Nat.le_of_ble_eq_true rfl) rfl dJ0_length_8abf5_6 ?_
  refine nt_ishr X dJ0_length_8abf5_9 ?_
  have h := nt_R_some h
  exact nt_iret X dJ0_length_8abf5_10 (nt_pe h hg)
def fJl_canEncode_9a6ad (x0 : Int32) (g : nt_T) : Option (Int32) :=
  (if x0 < 0 then
    (some (0 : Int32))
  else
    ((if (255 : Int32) < x0 then
    (some (0 : Int32))
  else
    (some (1 : Int32)))))
set_option maxRecDepth 100000 in
set_option maxHeartbeats 4000000 in
theorem cJl_canEncode_9a6ad {l : Launch} {w : nt_w} (hw : nt_isD w) {x0 : Int32} {g : nt_T} {r : Int32} (hf : fJl_canEncode_9a6ad x0 g = some r) : nt_Mi l w yJ1_canEncode_9a6ad cJ1_canEncode_9a6ad 1 (some .boolean) 1 [.int x0] g r g := by
  refine nt_Mi_of (by decide) (Nat.le_of_ble_eq_true rfl) (fun p e s m args below meth c A X => ?_)
  have X : nt_X cJ1_canEncode_9a6ad 1 RJ1 (some .boolean) w A p s m args meth c := X
  have hg : g = g := rfl
  have h : nt_R (fJl_canEncode_9a6ad x0 g) (fun z => z = r) := ⟨_, hf, rfl⟩
  unfold fJl_canEncode_9a6ad at h
  show nt_G p l e (nt_rm 1) s m args below meth c w A 0 0 (nt_Qi w A below args s r g) 1 0 [(0, .int x0)] [] g
  refine nt_iload_n X dJ1_canEncode_9a6ad_0 rfl 0 rfl ?_
  obtain ⟨ht, hf⟩ := nt_R_if h
  refine nt_if_lt X 15 dJ1_canEncode_9a6ad_1 (by decide) (fun q1 => ?_) (fun q1 => ?_)
  · have h := ht q1
    refine nt_iconst X dJ1_canEncode_9a6ad_15 nt_ci_0 ?_
    have h := nt_R_some h
    exact nt_zret X rfl dJ1_canEncode_9a6ad_16 (nt_pe h hg)
  · have h := hf q1
    refine nt_iload_n X dJ1_canEncode_9a6ad_4 rfl 0 rfl ?_
    refine nt_sipush X dJ1_canEncode_9a6ad_5 nt_cs_255 ?_
    obtain ⟨ht, hf⟩ := nt_R_if h
    refine nt_icmp_gt X 15 dJ1_canEncode_9a6ad_8 (by decide) (fun q2 => ?_) (fun q2 => ?_)
    · have h := ht q2
      refine nt_iconst X dJ1_canEncode_9a6ad_15 nt_ci_0 ?_
      have h := nt_R_some h
      exact nt_zret X rfl dJ1_canEncode_9a6ad_16 (nt_pe h hg)
    · have h := hf q2
      refine nt_iconst X dJ1_canEncode_9a6ad_11 nt_ci_1 ?_
      refine nt_goto X 16 dJ1_canEncode_9a6ad_12 (by decide) ?_
      have h := nt_R_some h
      exact nt_zret X rfl dJ1_canEncode_9a6ad_16 (nt_pe h hg)
def fJl_indexOf_4cfef (i : Nat) (x1 : Int32) (x2 : Int32) (x3 : Int32) (g : nt_T) : Option (Int32) :=
  nt_b1 (fJl_canEncode_9a6ad x1 g) fun r1 => (if r1 = 0 then
    (some (-1 : Int32))
  else
    (nt_lt (nt_max x2 (0 : Int32)) fun v3 => nt_lt (nt_min x3 (Int32.ofNat (nt_len.getD i 0))) fun v4 => (if v3 < v4 then
    (nt_b1 (fJl_indexOfChar_4cfef i x1 v3 v4 g) fun r6 => some r6)
  else
    (some (-1 : Int32)))))
set_option maxRecDepth 100000 in
set_option maxHeartbeats 4000000 in
theorem cJl_indexOf_4cfef {l : Launch} {w : nt_w} (hw : nt_isD w) {i : Nat} (hi : i < 3) {x1 : Int32} {x2 : Int32} {x3 : Int32} {g : nt_T} {r : Int32} (hf : fJl_indexOf_4cfef i x1 x2 x3 g = some r) : nt_Mi l w yJ1_indexOf_4cfef cJ1_indexOf_4cfef 4 (some .int) 3 [.ref (w.2.2.1 (4 + i)), .int x1, .int x2, .int x3] g r g := by
  refine nt_Mi_of (by decide) (Nat.le_of_ble_eq_true rfl) (fun p e s m args below meth c A X => ?_)
  have X : nt_X cJ1_indexOf_4cfef 4 RJ1 (some .int) w A p s m args meth c := X
  have hg : g = g := rfl
  have h : nt_R (fJl_indexOf_4cfef i x1 x2 x3 g) (fun z => z = r) := ⟨_, hf, rfl⟩
  unfold fJl_indexOf_4cfef at h
  show nt_G p l e (nt_rm 3) s m args below meth c w A 0 0 (nt_Qi w A below args s r g) 4 0 [(0, .ref (w.2.2.1 (4 + i))), (1, .int x1), (2, .int x2), (3, .int x3)] [] g
  refine nt_iload_n X dJ1_indexOf_4cfef_0 rfl 1 rfl ?_
  obtain ⟨r1, er1, h⟩ := nt_R_b1 h
  refine nt_cSi X (As := [.int x1]) (cJl_canEncode_9a6ad hw er1) wd_158 wd_156 wd_157 wd_6 hd_J1_canEncode_9a6ad ⟨Nat.le_of_ble_eq_true rfl, Nat.le_of_ble_eq_true rfl⟩ ⟨Nat.le_refl 0, Nat.le_refl 0⟩ (Nat.le_of_ble_eq_true rfl) rfl dJ1_indexOf_4cfef_1 ?_
  obtain ⟨ht, hf⟩ := nt_R_if h
  refine nt_if_ne X 9 dJ1_indexOf_4cfef_4 (by decide) (fun q2 => ?_) (fun q2 => ?_)
  · have h := hf q2
    refine nt_iload_n X dJ1_indexOf_4cfef_9 rfl 2 rfl ?_
    refine nt_iconst X dJ1_indexOf_4cfef_10 nt_ci_0 ?_
    refine nt_mmax X wd_159 wd_160 wd_9 wd_161 ⟨Nat.le_of_ble_eq_true rfl, Nat.le_of_ble_eq_true rfl⟩ ⟨Nat.le_refl 0, Nat.le_refl 0⟩ dJ1_indexOf_4cfef_11 ?_
    obtain ⟨v3, ev3, h⟩ := nt_R_lt h
    refine nt_topi ev3 ?_
    refine nt_istore_n X [(2, .int v3), (0, .ref (w.2.2.1 (4 + i))), (1, .int x1), (3, .int x3)] dJ1_indexOf_4cfef_14 rfl (by decide) rfl ?_
    refine nt_iload_n X dJ1_indexOf_4cfef_15 rfl 3 rfl ?_
    refine nt_aload_n X dJ1_indexOf_4cfef_16 rfl 1 rfl ?_
    refine nt_slen X hi dJ1_indexOf_4cfef_17 ?_
    refine nt_mmin X wd_162 wd_163 wd_9 wd_164 ⟨Nat.le_of_ble_eq_true rfl, Nat.le_of_ble_eq_true rfl⟩ ⟨Nat.le_refl 0, Nat.le_refl 0⟩ dJ1_indexOf_4cfef_18 ?_
    obtain ⟨v4, ev4, h⟩ := nt_R_lt h
    refine nt_topi ev4 ?_
    refine nt_istore_n X [(3, .int v4), (2, .int v3), (0, .ref (w.2.2.1 (4 + i))), (1, .int x1)] dJ1_indexOf_4cfef_21 rfl (by decide) rfl ?_
    refine nt_iload_n X dJ1_indexOf_4cfef_22 rfl 1 rfl ?_
    refine nt_iload_n X dJ1_indexOf_4cfef_23 rfl 0 rfl ?_
    obtain ⟨ht, hf⟩ := nt_R_if h
    refine nt_icmp_lt X 29 dJ1_indexOf_4cfef_24 (by decide) (fun q5 => ?_) (fun q5 => ?_)
    · have h := ht q5
      refine nt_aload_n X dJ1_indexOf_4cfef_29 rfl 2 rfl ?_
      refine nt_iload_n X dJ1_indexOf_4cfef_30 rfl 3 rfl ?_
      refine nt_iload_n X dJ1_indexOf_4cfef_31 rfl 1 rfl ?_
      refine nt_iload_n X dJ1_indexOf_4cfef_32 rfl 0 rfl ?_
      obtain ⟨r6, er6, h⟩ := nt_R_b1 h
      refine nt_cSi X (As := [.ref (w.2.2.1 (4 + i)), .int x1, .int v3, .int v4]) (cJl_indexOfChar_4cfef hw hi er6) wd_167 wd_165 wd_166 wd_6 hd_J1_indexOfChar_4cfef ⟨Nat.le_of_ble_eq_true rfl, Nat.le_of_ble_eq_true rfl⟩ ⟨Nat.le_refl 0, Nat.le_refl 0⟩ (Nat.le_of_ble_eq_true rfl) rfl dJ1_indexOf_4cfef_33 ?_
      have h := nt_R_some h
      exact nt_iret X dJ1_indexOf_4cfef_36 (nt_pe h hg)
    · have h := hf q5
      refine nt_iconst X dJ1_indexOf_4cfef_27 nt_ci_m1 ?_
      have h := nt_R_some h
      exact nt_iret X dJ1_indexOf_4cfef_28 (nt_pe h hg)
  · have h := ht q2
    refine nt_iconst X dJ1_indexOf_4cfef_7 nt_ci_m1 ?_
    have h := nt_R_some h
    exact nt_iret X dJ1_indexOf_4cfef_8 (nt_pe h hg)
def fJs_indexOf_7cf53 (i : Nat) (x1 : Int32) (x2 : Int32) (g : nt_T) : Option (Int32 × nt_T) :=
  nt_b1 (fJs_isLatin1_aae02 i g) fun r1 => (if r1 = 0 then
    (nt_b1 (fJs_length_8abf5 i g) fun r3 => none)
  else
    (nt_b1 (fJs_length_8abf5 i g) fun r4 => nt_b1 (fJl_indexOf_4cfef i x1 x2 r4 g) fun r5 => some (r5, g)))
set_option maxRecDepth 100000 in
set_option maxHeartbeats 4000000 in
theorem cJs_indexOf_7cf53 {l : Launch} {w : nt_w} (hw : nt_isD w) {i : Nat} (hi : i < 3) {x1 : Int32} {x2 : Int32} {g : nt_T} {r : Int32} {g2 : nt_T} (hf : fJs_indexOf_7cf53 i x1 x2 g = some (r, g2)) : nt_Mi l w yJ0_indexOf_7cf53 cJ0_indexOf_7cf53 3 (some .int) 5 [.ref (w.2.2.1 (1 + i)), .int x1, .int x2] g r g2 := by
  refine nt_Mi_of (by decide) (Nat.le_of_ble_eq_true rfl) (fun p e s m args below meth c A X => ?_)
  have X : nt_X cJ0_indexOf_7cf53 3 RJ0 (some .int) w A p s m args meth c := X
  have h : nt_R (fJs_indexOf_7cf53 i x1 x2 g) (fun z => z = (r, g2)) := ⟨_, hf, rfl⟩
  unfold fJs_indexOf_7cf53 at h
  show nt_G p l e (nt_rm 5) s m args below meth c w A 0 0 (nt_Qi w A below args s r g2) 3 0 [(0, .ref (w.2.2.1 (1 + i))), (1, .int x1), (2, .int x2)] [] g
  refine nt_aload_n X dJ0_indexOf_7cf53_0 rfl 0 rfl ?_
  obtain ⟨r1, er1, h⟩ := nt_R_b1 h
  refine nt_cKi X (As := []) hi (cJs_isLatin1_aae02 hw hi er1) wd_97 wd_94 wd_95 wd_96 wd_5 rfl hd_J0_isLatin1_aae02 ⟨Nat.le_of_ble_eq_true rfl, Nat.le_of_ble_eq_true rfl⟩ ⟨Nat.le_refl 0, Nat.le_refl 0⟩ (Nat.le_of_ble_eq_true rfl) rfl dJ0_indexOf_7cf53_1 ?_
  obtain ⟨ht, hf⟩ := nt_R_if h
  refine nt_if_eq X 23 dJ0_indexOf_7cf53_4 (by decide) (fun q2 => ?_) (fun q2 => ?_)
  · have h := ht q2
    refine nt_aload_n X dJ0_indexOf_7cf53_23 rfl 0 rfl ?_
    refine nt_sval X hi wd_1007 dJ0_indexOf_7cf53_24 ?_
    refine nt_iload_n X dJ0_indexOf_7cf53_27 rfl 1 rfl ?_
    refine nt_iload_n X dJ0_indexOf_7cf53_28 rfl 2 rfl ?_
    refine nt_aload_n X dJ0_indexOf_7cf53_29 rfl 0 rfl ?_
    obtain ⟨r3, er3, h⟩ := nt_R_b1 h
    refine nt_cKi X (As := []) hi (cJs_length_8abf5 hw hi er3) wd_84 wd_152 wd_82 wd_83 wd_5 rfl hd_J0_length_8abf5 ⟨Nat.le_of_ble_eq_true rfl, Nat.le_of_ble_eq_true rfl⟩ ⟨Nat.le_refl 0, Nat.le_refl 0⟩ (Nat.le_of_ble_eq_true rfl) rfl dJ0_indexOf_7cf53_30 ?_
    exact nt_R_none h
  · have h := hf q2
    refine nt_aload_n X dJ0_indexOf_7cf53_7 rfl 0 rfl ?_
    refine nt_sval X hi wd_1007 dJ0_indexOf_7cf53_8 ?_
    refine nt_iload_n X dJ0_indexOf_7cf53_11 rfl 1 rfl ?_
    refine nt_iload_n X dJ0_indexOf_7cf53_12 rfl 2 rfl ?_
    refine nt_aload_n X dJ0_indexOf_7cf53_13 rfl 0 rfl ?_
    obtain ⟨r4, er4, h⟩ := nt_R_b1 h
    refine nt_cKi X (As := []) hi (cJs_length_8abf5 hw hi er4) wd_84 wd_152 wd_82 wd_83 wd_5 rfl hd_J0_length_8abf5 ⟨Nat.le_of_ble_eq_true rfl, Nat.le_of_ble_eq_true rfl⟩ ⟨Nat.le_refl 0, Nat.le_refl 0⟩ (Nat.le_of_ble_eq_true rfl) rfl dJ0_indexOf_7cf53_14 ?_
    obtain ⟨r5, er5, h⟩ := nt_R_b1 h
    refine nt_cSi X (As := [.ref (w.2.2.1 (4 + i)), .int x1, .int x2, .int r4]) (cJl_indexOf_4cfef hw hi er5) wd_155 wd_153 wd_154 wd_6 hd_J1_indexOf_4cfef ⟨Nat.le_of_ble_eq_true rfl, Nat.le_of_ble_eq_true rfl⟩ ⟨Nat.le_refl 0, Nat.le_refl 0⟩ (Nat.le_of_ble_eq_true rfl) rfl dJ0_indexOf_7cf53_17 ?_
    refine nt_goto X 36 dJ0_indexOf_7cf53_20 (by decide) ?_
    have h := nt_R_some h
    exact nt_iret X dJ0_indexOf_7cf53_36 h
def fJs_indexOf_0f7a4 (i : Nat) (x1 : Int32) (g : nt_T) : Option (Int32 × nt_T) :=
  nt_b2 (fJs_indexOf_7cf53 i x1 (0 : Int32) g) fun r1 g2 => some (r1, g2)
set_option maxRecDepth 100000 in
set_option maxHeartbeats 4000000 in
theorem cJs_indexOf_0f7a4 {l : Launch} {w : nt_w} (hw : nt_isD w) {i : Nat} (hi : i < 3) {x1 : Int32} {g : nt_T} {r : Int32} {g2 : nt_T} (hf : fJs_indexOf_0f7a4 i x1 g = some (r, g2)) : nt_Mi l w yJ0_indexOf_0f7a4 cJ0_indexOf_0f7a4 2 (some .int) 7 [.ref (w.2.2.1 (1 + i)), .int x1] g r g2 := by
  refine nt_Mi_of (by decide) (Nat.le_of_ble_eq_true rfl) (fun p e s m args below meth c A X => ?_)
  have X : nt_X cJ0_indexOf_0f7a4 2 RJ0 (some .int) w A p s m args meth c := X
  have h : nt_R (fJs_indexOf_0f7a4 i x1 g) (fun z => z = (r, g2)) := ⟨_, hf, rfl⟩
  unfold fJs_indexOf_0f7a4 at h
  show nt_G p l e (nt_rm 7) s m args below meth c w A 0 0 (nt_Qi w A below args s r g2) 2 0 [(0, .ref (w.2.2.1 (1 + i))), (1, .int x1)] [] g
  refine nt_aload_n X dJ0_indexOf_0f7a4_0 rfl 0 rfl ?_
  refine nt_iload_n X dJ0_indexOf_0f7a4_1 rfl 1 rfl ?_
  refine nt_iconst X dJ0_indexOf_0f7a4_2 nt_ci_0 ?_
  obtain ⟨r1, g2, er1, h⟩ := nt_R_b2 h
  refine nt_cKi X (As := [.int x1, .int (0 : Int32)]) hi (cJs_indexOf_7cf53 hw hi er1) wd_151 wd_148 wd_149 wd_150 wd_5 rfl hd_J0_indexOf_7cf53 ⟨Nat.le_of_ble_eq_true rfl, Nat.le_of_ble_eq_true rfl⟩ ⟨Nat.le_refl 0, Nat.le_refl 0⟩ (Nat.le_of_ble_eq_true rfl) rfl dJ0_indexOf_0f7a4_3 ?_
  have h := nt_R_some h
  exact nt_iret X dJ0_indexOf_0f7a4_6 h
def jJc_checkIndex_8e157_9 (x0 : Int32) (x1 : Int32) (g : nt_T) : Option (Int32) :=
  none
set_option maxRecDepth 100000 in
set_option maxHeartbeats 4000000 in
theorem tjJc_checkIndex_8e157_9 {p : Program} {l : Launch} {e : Env} {s : State} {m : MethodId} {args : Array Value} {below : List Frame} {meth : Method} {c : Code} {w : nt_w} {A : Nat → Prop} {vf : Value} (hw : nt_isD w) (hvf : vf = .null ∨ ∃ a, vf = .ref a) {r : Int32} {g0 : nt_T}  (X : nt_X cJ3_checkIndex_8e157 3 RJ3 (some .int) w A p s m args meth c) (x0 : Int32) (x1 : Int32) (g : nt_T) (hg : g = g0) (h : nt_R (jJc_checkIndex_8e157_9 x0 x1 g) (fun z => z = r)) : nt_G p l e (nt_rm 1) s m args below meth c w A 0 0 (nt_Qi w A below args s r g0) 3 9 [(0, .int x0), (1, .int x1), (2, vf)] [] g := by
  unfold jJc_checkIndex_8e157_9 at h
  exact nt_R_none h
def fJc_checkIndex_8e157 (x0 : Int32) (x1 : Int32) (g : nt_T) : Option (Int32) :=
  (if x0 < 0 then
    (jJc_checkIndex_8e157_9 x0 x1 g)
  else
    ((if x0 < x1 then
    (some x0)
  else
    (jJc_checkIndex_8e157_9 x0 x1 g))))
set_option maxRecDepth 100000 in
set_option maxHeartbeats 4000000 in
theorem cJc_checkIndex_8e157 {l : Launch} {w : nt_w} (hw : nt_isD w) {vf : Value} (hvf : vf = .null ∨ ∃ a, vf = .ref a) {x0 : Int32} {x1 : Int32} {g : nt_T} {r : Int32} (hf : fJc_checkIndex_8e157 x0 x1 g = some r) : nt_Mi l w yJ3_checkIndex_8e157 cJ3_checkIndex_8e157 3 (some .int) 1 [.int x0, .int x1, vf] g r g := by
  refine nt_Mi_of (by decide) (by rcases hvf with rfl | ⟨a, rfl⟩ <;> exact Nat.le_of_ble_eq_true rfl) (fun p e s m args below meth c A X => ?_)
  have X : nt_X cJ3_checkIndex_8e157 3 RJ3 (some .int) w A p s m args meth c := X
  have hg : g = g := rfl
  have h : nt_R (fJc_checkIndex_8e157 x0 x1 g) (fun z => z = r) := ⟨_, hf, rfl⟩
  unfold fJc_checkIndex_8e157 at h
  show nt_G p l e (nt_rm 1) s m args below meth c w A 0 0 (nt_Qi w A below args s r g) 3 0 [(0, .int x0), (1, .int x1), (2, vf)] [] g
  refine nt_iload_n X dJ3_checkIndex_8e157_0 rfl 0 rfl ?_
  obtain ⟨ht, hf⟩ := nt_R_if h
  refine nt_if_lt X 9 dJ3_checkIndex_8e157_1 (by decide) (fun q1 => ?_) (fun q1 => ?_)
  · have h := ht q1
    exact tjJc_checkIndex_8e157_9 hw hvf X x0 x1 g hg h
  · have h := hf q1
    refine nt_iload_n X dJ3_checkIndex_8e157_4 rfl 0 rfl ?_
    refine nt_iload_n X dJ3_checkIndex_8e157_5 rfl 1 rfl ?_
    obtain ⟨ht, hf⟩ := nt_R_if h
    refine nt_icmp_lt X 16 dJ3_checkIndex_8e157_6 (by decide) (fun q2 => ?_) (fun q2 => ?_)
    · have h := ht q2
      refine nt_iload_n X dJ3_checkIndex_8e157_16 rfl 0 rfl ?_
      have h := nt_R_some h
      exact nt_iret X dJ3_checkIndex_8e157_17 (nt_pe h hg)
    · have h := hf q2
      exact tjJc_checkIndex_8e157_9 hw hvf X x0 x1 g hg h
def fJs_checkIndex_df160 (x0 : Int32) (x1 : Int32) (g : nt_T) : Option (Unit) :=
  nt_b1 (fJc_checkIndex_8e157 x0 x1 g) fun r1 => some ()
set_option maxRecDepth 100000 in
set_option maxHeartbeats 4000000 in
theorem cJs_checkIndex_df160 {l : Launch} {w : nt_w} (hw : nt_isD w) {x0 : Int32} {x1 : Int32} {g : nt_T} (hf : fJs_checkIndex_df160 x0 x1 g = some ()) : nt_Mv l w yJ0_checkIndex_df160 cJ0_checkIndex_df160 2 none 3 [.int x0, .int x1] g g := by
  refine nt_Mv_of (by decide) (Nat.le_of_ble_eq_true rfl) (fun p e s m args below meth c A X => ?_)
  have X : nt_X cJ0_checkIndex_df160 2 RJ0 none w A p s m args meth c := X
  have hg : g = g := rfl
  have h : nt_R (fJs_checkIndex_df160 x0 x1 g) (fun z => z = ()) := ⟨_, hf, rfl⟩
  unfold fJs_checkIndex_df160 at h
  show nt_G p l e (nt_rm 3) s m args below meth c w A 0 0 (nt_Qv w A below args s g) 2 0 [(0, .int x0), (1, .int x1)] [] g
  refine nt_iload_n X dJ0_checkIndex_df160_0 rfl 0 rfl ?_
  refine nt_iload_n X dJ0_checkIndex_df160_1 rfl 1 rfl ?_
  refine nt_gfm X wd_104 dJ0_checkIndex_df160_2 ?_
  obtain ⟨r1, er1, h⟩ := nt_R_b1 h
  refine nt_cSi X (As := [.int x0, .int x1, w.2.2.2.1]) (cJc_checkIndex_8e157 hw (nt_zfD hw) er1) wd_107 wd_105 wd_106 wd_7 hd_J3_checkIndex_8e157 ⟨Nat.le_of_ble_eq_true rfl, Nat.le_of_ble_eq_true rfl⟩ ⟨Nat.le_refl 0, Nat.le_refl 0⟩ (Nat.le_of_ble_eq_true rfl) rfl dJ0_checkIndex_df160_5 ?_
  refine nt_pop X dJ0_checkIndex_df160_8 rfl ?_
  have h := nt_R_some h
  exact nt_vret X dJ0_checkIndex_df160_9 hg
def fJl_charAt_3b067 (i : Nat) (x1 : Int32) (g : nt_T) : Option (Int32) :=
  nt_b1 (fJs_checkIndex_df160 x1 (Int32.ofNat (nt_len.getD i 0)) g) fun u1 => nt_gd (nt_in x1 (nt_len.getD i 0)) <| nt_gd (decide (narrow .char (.int (nt_u16 ((nt_ch i x1) &&& (255 : Int32)))) = .int (nt_u16 ((nt_ch i x1) &&& (255 : Int32))))) <| some (nt_u16 ((nt_ch i x1) &&& (255 : Int32)))
set_option maxRecDepth 100000 in
set_option maxHeartbeats 4000000 in
theorem cJl_charAt_3b067 {l : Launch} {w : nt_w} (hw : nt_isD w) {i : Nat} (hi : i < 3) {x1 : Int32} {g : nt_T} {r : Int32} (hf : fJl_charAt_3b067 i x1 g = some r) : nt_Mi l w yJ1_charAt_3b067 cJ1_charAt_3b067 2 (some .char) 5 [.ref (w.2.2.1 (4 + i)), .int x1] g r g := by
  refine nt_Mi_of (by decide) (Nat.le_of_ble_eq_true rfl) (fun p e s m args below meth c A X => ?_)
  have X : nt_X cJ1_charAt_3b067 2 RJ1 (some .char) w A p s m args meth c := X
  have hg : g = g := rfl
  have h : nt_R (fJl_charAt_3b067 i x1 g) (fun z => z = r) := ⟨_, hf, rfl⟩
  unfold fJl_charAt_3b067 at h
  show nt_G p l e (nt_rm 5) s m args below meth c w A 0 0 (nt_Qi w A below args s r g) 2 0 [(0, .ref (w.2.2.1 (4 + i))), (1, .int x1)] [] g
  refine nt_iload_n X dJ1_charAt_3b067_0 rfl 1 rfl ?_
  refine nt_aload_n X dJ1_charAt_3b067_1 rfl 0 rfl ?_
  refine nt_slen X hi dJ1_charAt_3b067_2 ?_
  obtain ⟨u1, eu1, h⟩ := nt_R_b1 h
  refine nt_cSv X (As := [.int x1, .int (Int32.ofNat (nt_len.getD i 0))]) (cJs_checkIndex_df160 hw eu1) wd_103 wd_101 wd_102 wd_5 hd_J0_checkIndex_df160 ⟨Nat.le_of_ble_eq_true rfl, Nat.le_of_ble_eq_true rfl⟩ ⟨Nat.le_refl 0, Nat.le_refl 0⟩ (Nat.le_of_ble_eq_true rfl) rfl dJ1_charAt_3b067_3 ?_
  refine nt_aload_n X dJ1_charAt_3b067_6 rfl 0 rfl ?_
  refine nt_iload_n X dJ1_charAt_3b067_7 rfl 1 rfl ?_
  obtain ⟨q2, h⟩ := nt_R_gd h
  refine nt_sbyt X hi q2 dJ1_charAt_3b067_8 ?_
  refine nt_sipush X dJ1_charAt_3b067_9 nt_cs_255 ?_
  refine nt_iand X dJ1_charAt_3b067_12 ?_
  refine nt_i2c X (v := nt_u16 ((nt_ch i x1) &&& (255 : Int32))) dJ1_charAt_3b067_13 rfl ?_
  obtain ⟨q3, h⟩ := nt_R_gd h
  have h := nt_R_some h
  exact nt_zret X (of_decide_eq_true q3) dJ1_charAt_3b067_14 (nt_pe h hg)
def fJs_charAt_5068e (i : Nat) (x1 : Int32) (g : nt_T) : Option (Int32 × nt_T) :=
  nt_b1 (fJs_isLatin1_aae02 i g) fun r1 => (if r1 = 0 then
    (none)
  else
    (nt_b1 (fJl_charAt_3b067 i x1 g) fun r3 => nt_gd (decide (narrow .char (.int r3) = .int r3)) <| some (r3, g)))
set_option maxRecDepth 100000 in
set_option maxHeartbeats 4000000 in
theorem cJs_charAt_5068e {l : Launch} {w : nt_w} (hw : nt_isD w) {i : Nat} (hi : i < 3) {x1 : Int32} {g : nt_T} {r : Int32} {g2 : nt_T} (hf : fJs_charAt_5068e i x1 g = some (r, g2)) : nt_Mi l w yJ0_charAt_5068e cJ0_charAt_5068e 2 (some .char) 7 [.ref (w.2.2.1 (1 + i)), .int x1] g r g2 := by
  refine nt_Mi_of (by decide) (Nat.le_of_ble_eq_true rfl) (fun p e s m args below meth c A X => ?_)
  have X : nt_X cJ0_charAt_5068e 2 RJ0 (some .char) w A p s m args meth c := X
  have h : nt_R (fJs_charAt_5068e i x1 g) (fun z => z = (r, g2)) := ⟨_, hf, rfl⟩
  unfold fJs_charAt_5068e at h
  show nt_G p l e (nt_rm 7) s m args below meth c w A 0 0 (nt_Qi w A below args s r g2) 2 0 [(0, .ref (w.2.2.1 (1 + i))), (1, .int x1)] [] g
  refine nt_aload_n X dJ0_charAt_5068e_0 rfl 0 rfl ?_
  obtain ⟨r1, er1, h⟩ := nt_R_b1 h
  refine nt_cKi X (As := []) hi (cJs_isLatin1_aae02 hw hi er1) wd_97 wd_94 wd_95 wd_96 wd_5 rfl hd_J0_isLatin1_aae02 ⟨Nat.le_of_ble_eq_true rfl, Nat.le_of_ble_eq_true rfl⟩ ⟨Nat.le_refl 0, Nat.le_refl 0⟩ (Nat.le_of_ble_eq_true rfl) rfl dJ0_charAt_5068e_1 ?_
  obtain ⟨ht, hf⟩ := nt_R_if h
  refine nt_if_eq X 16 dJ0_charAt_5068e_4 (by decide) (fun q2 => ?_) (fun q2 => ?_)
  · have h := ht q2
    refine nt_aload_n X dJ0_charAt_5068e_16 rfl 0 rfl ?_
    refine nt_sval X hi wd_1007 dJ0_charAt_5068e_17 ?_
    refine nt_iload_n X dJ0_charAt_5068e_20 rfl 1 rfl ?_
    exact nt_R_none h
  · have h := hf q2
    refine nt_aload_n X dJ0_charAt_5068e_7 rfl 0 rfl ?_
    refine nt_sval X hi wd_1007 dJ0_charAt_5068e_8 ?_
    refine nt_iload_n X dJ0_charAt_5068e_11 rfl 1 rfl ?_
    obtain ⟨r3, er3, h⟩ := nt_R_b1 h
    refine nt_cSi X (As := [.ref (w.2.2.1 (4 + i)), .int x1]) (cJl_charAt_3b067 hw hi er3) wd_100 wd_98 wd_99 wd_6 hd_J1_charAt_3b067 ⟨Nat.le_of_ble_eq_true rfl, Nat.le_of_ble_eq_true rfl⟩ ⟨Nat.le_refl 0, Nat.le_refl 0⟩ (Nat.le_of_ble_eq_true rfl) rfl dJ0_charAt_5068e_12 ?_
    obtain ⟨q4, h⟩ := nt_R_gd h
    have h := nt_R_some h
    exact nt_zret X (of_decide_eq_true q4) dJ0_charAt_5068e_15 h
def fRd_put (x1 : Int32) (g : nt_T) : Option (Int32 × nt_T) :=
  (if (g 10 1) < (160 : Int32) then
    (nt_gd (nt_in (g 10 1) 160) <| nt_lt (nt_st g 11 (Int32.toNatClampNeg (g 10 1)) x1) fun g3 => nt_lt (nt_st g3 10 1 ((g3 10 1) + (1 : Int32))) fun g4 => some ((g4 10 1), g4))
  else
    (some ((-4 : Int32), g)))
set_option maxRecDepth 100000 in
set_option maxHeartbeats 4000000 in
theorem cRd_put {l : Launch} {w : nt_w} (hw : nt_isD w) {x1 : Int32} {g : nt_T} {r : Int32} {g2 : nt_T} (hf : fRd_put x1 g = some (r, g2)) : nt_Mi l w yX1_put cX1_put 2 (some .int) 1 [.ref (nt_a w 10), .int x1] g r g2 := by
  refine nt_Mi_of (by decide) (Nat.le_of_ble_eq_true rfl) (fun p e s m args below meth c A X => ?_)
  have X : nt_X cX1_put 2 RX1 (some .int) w A p s m args meth c := X
  have h : nt_R (fRd_put x1 g) (fun z => z = (r, g2)) := ⟨_, hf, rfl⟩
  unfold fRd_put at h
  show nt_G p l e (nt_rm 1) s m args below meth c w A 0 0 (nt_Qi w A below args s r g2) 2 0 [(0, .ref (nt_a w 10)), (1, .int x1)] [] g
  refine nt_aload_n X dX1_put_0 rfl 0 rfl ?_
  refine nt_get X 10 inX1 (nt_lD hw (Nat.le_of_ble_eq_true rfl)) (nt_d10 hw) rfl (j := 1) (by decide) wd_62 (v := .int (g 10 1)) rfl dX1_put_1 ?_
  refine nt_sipush X dX1_put_4 nt_cs_160 ?_
  obtain ⟨ht, hf⟩ := nt_R_if h
  refine nt_icmp_lt X 13 dX1_put_7 (by decide) (fun q1 => ?_) (fun q1 => ?_)
  · have h := ht q1
    refine nt_aload_n X dX1_put_13 rfl 0 rfl ?_
    refine nt_get X 10 inX1 (nt_lD hw (Nat.le_of_ble_eq_true rfl)) (nt_d10 hw) rfl (j := 0) (by decide) wd_61 (v := .ref (nt_a w 11)) rfl dX1_put_14 ?_
    refine nt_aload_n X dX1_put_17 rfl 0 rfl ?_
    refine nt_get X 10 inX1 (nt_lD hw (Nat.le_of_ble_eq_true rfl)) (nt_d10 hw) rfl (j := 1) (by decide) wd_62 (v := .int (g 10 1)) rfl dX1_put_18 ?_
    refine nt_iload_n X dX1_put_21 rfl 1 rfl ?_
    obtain ⟨q2, h⟩ := nt_R_gd h
    refine nt_iast X 11 0 (nt_lD hw (Nat.le_of_ble_eq_true rfl)) (nt_d11 hw) (nt_tD hw) q2 dX1_put_22 ?_
    obtain ⟨g3, eg3, h⟩ := nt_R_lt h
    refine nt_geq eg3 ?_
    refine nt_aload_n X dX1_put_23 rfl 0 rfl ?_
    refine nt_dup X dX1_put_24 rfl ?_
    refine nt_get X 10 inX1 (nt_lD hw (Nat.le_of_ble_eq_true rfl)) (nt_d10 hw) rfl (j := 1) (by decide) wd_62 (v := .int (g3 10 1)) rfl dX1_put_25 ?_
    refine nt_iconst X dX1_put_28 nt_ci_1 ?_
    refine nt_iadd X dX1_put_29 ?_
    refine nt_put X 10 inX1 (nt_lD hw (Nat.le_of_ble_eq_true rfl)) (nt_d10 hw) rfl (j := 1) (by decide) wd_62 tyX1 tyX1_ok nmX1 rfl (ty := .int) rfl rfl rfl (fun _ => Nat.le_of_ble_eq_true rfl) (fun _ => rfl) dX1_put_30 ?_
    obtain ⟨g4, eg4, h⟩ := nt_R_lt h
    refine nt_geq eg4 ?_
    refine nt_aload_n X dX1_put_33 rfl 0 rfl ?_
    refine nt_get X 10 inX1 (nt_lD hw (Nat.le_of_ble_eq_true rfl)) (nt_d10 hw) rfl (j := 1) (by decide) wd_62 (v := .int (g4 10 1)) rfl dX1_put_34 ?_
    have h := nt_R_some h
    exact nt_iret X dX1_put_37 h
  · have h := hf q1
    refine nt_bipush X dX1_put_10 nt_cb_m4 ?_
    have h := nt_R_some h
    exact nt_iret X dX1_put_12 h
def bRd_putFirstText_2 (x1 : Int32) (g : nt_T) : Option ((Int32 × nt_T) ⊕ ((nt_T))) :=
  nt_b1 (fJs_length_8abf5 0 g) fun r1 => (if r1 ≤ x1 then
    (some (.inr g))
  else
    (nt_b2 (fJs_charAt_5068e 0 x1 g) fun r3 g4 => nt_b2 (fRd_put r3 g4) fun r5 g6 => nt_lt (x1 + (1 : Int32)) fun v7 => some (.inl (v7, g6))))
set_option maxRecDepth 100000 in
set_option maxHeartbeats 4000000 in
theorem tbRd_putFirstText_2 {p : Program} {l : Launch} {e : Env} {s : State} {m : MethodId} {args : Array Value} {below : List Frame} {meth : Method} {c : Code} {w : nt_w} {A : Nat → Prop} (hw : nt_isD w) {Q : State → Prop} (X : nt_X cX1_putFirstText 2 RX1 none w A p s m args meth c)  {Qx : ((nt_T)) → Prop} (hE0 : ∀ (gy : nt_T), Qx gy → nt_G p l e (nt_rm 9) s m args below meth c w A 0 0 Q 2 28 [(0, .ref (nt_a w 10))] [] gy) : ∀ (n : Nat) (x1 : Int32) (g : nt_T), nt_R (nt_it (fun z => bRd_putFirstText_2 z.1 z.2) n (x1, g)) Qx → nt_G p l e (nt_rm 9) s m args below meth c w A 0 0 Q 2 2 [(0, .ref (nt_a w 10)), (1, .int x1)] [] g := by
  intro n
  induction n with
  | zero =>
    intro x1 g h
    exact nt_R_none h
  | succ n ih =>
    intro x1 g h
    have h : nt_R (bRd_putFirstText_2 x1 g) (nt_Qz (fun z => bRd_putFirstText_2 z.1 z.2) n Qx) := nt_R_it h
    have hI : ∀ (y1 : Int32) (gy : nt_T), nt_Qz (fun z => bRd_putFirstText_2 z.1 z.2) n Qx (.inl (y1, gy)) → nt_G p l e (nt_rm 9) s m args below meth c w A 0 0 Q 2 2 [(0, .ref (nt_a w 10)), (1, .int y1)] [] gy := fun y1 gy q => ih y1 gy q
    have hE0 : ∀ (gy : nt_T), nt_Qz (fun z => bRd_putFirstText_2 z.1 z.2) n Qx (.inr gy) → nt_G p l e (nt_rm 9) s m args below meth c w A 0 0 Q 2 28 [(0, .ref (nt_a w 10))] [] gy := hE0
    generalize nt_Qz (fun z => bRd_putFirstText_2 z.1 z.2) n Qx = Qz at h hI hE0
    unfold bRd_putFirstText_2 at h
    refine nt_iload_n X dX1_putFirstText_2 rfl 1 rfl ?_
    refine nt_ldcS0 X rfl dX1_putFirstText_3 ?_
    obtain ⟨r1, er1, h⟩ := nt_R_b1 h
    refine nt_cKi X (As := []) (i := 0) (by decide) (cJs_length_8abf5 hw (by decide) er1) wd_84 wd_81 wd_82 wd_83 wd_5 rfl hd_J0_length_8abf5 ⟨Nat.le_of_ble_eq_true rfl, Nat.le_of_ble_eq_true rfl⟩ ⟨Nat.le_refl 0, Nat.le_refl 0⟩ (Nat.le_of_ble_eq_true rfl) rfl dX1_putFirstText_5 ?_
    obtain ⟨ht, hf⟩ := nt_R_if h
    refine nt_icmp_ge X 28 dX1_putFirstText_8 (by decide) (fun q2 => ?_) (fun q2 => ?_)
    · have h := ht q2
      refine nt_sub [0] rfl ?_
      have h := nt_R_some h
      exact hE0 g h
    · have h := hf q2
      refine nt_aload_n X dX1_putFirstText_11 rfl 0 rfl ?_
      refine nt_ldcS0 X rfl dX1_putFirstText_12 ?_
      refine nt_iload_n X dX1_putFirstText_14 rfl 1 rfl ?_
      obtain ⟨r3, g4, er3, h⟩ := nt_R_b2 h
      refine nt_cKi X (As := [.int x1]) (i := 0) (by decide) (cJs_charAt_5068e hw (by decide) er3) wd_93 wd_90 wd_91 wd_92 wd_5 rfl hd_J0_charAt_5068e ⟨Nat.le_of_ble_eq_true rfl, Nat.le_of_ble_eq_true rfl⟩ ⟨Nat.le_refl 0, Nat.le_refl 0⟩ (Nat.le_of_ble_eq_true rfl) rfl dX1_putFirstText_15 ?_
      obtain ⟨r5, g6, er5, h⟩ := nt_R_b2 h
      refine nt_cVi X (As := [.int r3]) 10 (nt_lD hw (Nat.le_of_ble_eq_true rfl)) (nt_d10 hw) rfl (cRd_put hw er5) wd_126 wd_124 wd_125 wd_1010 wd_4 rfl hd_X1_put ⟨Nat.le_of_ble_eq_true rfl, Nat.le_of_ble_eq_true rfl⟩ ⟨Nat.le_refl 0, Nat.le_refl 0⟩ (Nat.le_of_ble_eq_true rfl) rfl dX1_putFirstText_18 ?_
      refine nt_pop X dX1_putFirstText_21 rfl ?_
      obtain ⟨v7, ev7, h⟩ := nt_R_lt h
      refine nt_iinc X v7 [(1, .int v7), (0, .ref (nt_a w 10))] dX1_putFirstText_22 1 rfl (by rw [nt_ci_1]; exact ev7) (by decide) rfl ?_
      refine nt_goto X 2 dX1_putFirstText_25 (by decide) ?_
      refine nt_sub [1, 0] rfl ?_
      have h := nt_R_some h
      exact hI v7 g6 h
def fRd_putFirstText (g : nt_T) : Option (nt_T) :=
  (nt_b1 (nt_it (fun z => bRd_putFirstText_2 z.1 z.2) nt_fu ((0 : Int32), g)) fun g8 => some g8)
set_option maxRecDepth 100000 in
set_option maxHeartbeats 4000000 in
theorem cRd_putFirstText {l : Launch} {w : nt_w} (hw : nt_isD w) {g : nt_T} {g2 : nt_T} (hf : fRd_putFirstText g = some g2) : nt_Mv l w yX1_putFirstText cX1_putFirstText 2 none 9 [.ref (nt_a w 10)] g g2 := by
  refine nt_Mv_of (by decide) (Nat.le_of_ble_eq_true rfl) (fun p e s m args below meth c A X => ?_)
  have X : nt_X cX1_putFirstText 2 RX1 none w A p s m args meth c := X
  have h : nt_R (fRd_putFirstText g) (fun z => z = g2) := ⟨_, hf, rfl⟩
  unfold fRd_putFirstText at h
  show nt_G p l e (nt_rm 9) s m args below meth c w A 0 0 (nt_Qv w A below args s g2) 2 0 [(0, .ref (nt_a w 10))] [] g
  refine nt_iconst X dX1_putFirstText_0 nt_ci_0 ?_
  refine nt_istore_n X [(1, .int (0 : Int32)), (0, .ref (nt_a w 10))] dX1_putFirstText_1 rfl (by decide) rfl ?_
  obtain ⟨z9, hz9, h⟩ := nt_R_b1 h
  refine nt_sub [1, 0] rfl ?_
  refine tbRd_putFirstText_2 hw X  (Qx := fun z => z = z9) (fun g8 hq => ?_) nt_fu (0 : Int32) g ⟨_, hz9, rfl⟩
  subst hq
  have h := nt_R_some h
  exact nt_vret X dX1_putFirstText_28 h
def fRd_empty (g : nt_T) : Option (nt_T) :=
  nt_lt (nt_st g 10 1 (0 : Int32)) fun g1 => some g1
set_option maxRecDepth 100000 in
set_option maxHeartbeats 4000000 in
theorem cRd_empty {l : Launch} {w : nt_w} (hw : nt_isD w) {g : nt_T} {g2 : nt_T} (hf : fRd_empty g = some g2) : nt_Mv l w yX1_empty cX1_empty 1 none 1 [.ref (nt_a w 10)] g g2 := by
  refine nt_Mv_of (by decide) (Nat.le_of_ble_eq_true rfl) (fun p e s m args below meth c A X => ?_)
  have X : nt_X cX1_empty 1 RX1 none w A p s m args meth c := X
  have h : nt_R (fRd_empty g) (fun z => z = g2) := ⟨_, hf, rfl⟩
  unfold fRd_empty at h
  show nt_G p l e (nt_rm 1) s m args below meth c w A 0 0 (nt_Qv w A below args s g2) 1 0 [(0, .ref (nt_a w 10))] [] g
  refine nt_aload_n X dX1_empty_0 rfl 0 rfl ?_
  refine nt_iconst X dX1_empty_1 nt_ci_0 ?_
  refine nt_put X 10 inX1 (nt_lD hw (Nat.le_of_ble_eq_true rfl)) (nt_d10 hw) rfl (j := 1) (by decide) wd_62 tyX1 tyX1_ok nmX1 rfl (ty := .int) rfl rfl rfl (fun _ => Nat.le_of_ble_eq_true rfl) (fun _ => rfl) dX1_empty_2 ?_
  obtain ⟨g1, eg1, h⟩ := nt_R_lt h
  refine nt_geq eg1 ?_
  have h := nt_R_some h
  exact nt_vret X dX1_empty_5 h
def fRd_place (g : nt_T) : Option (Int32) :=
  some (g 10 4)
set_option maxRecDepth 100000 in
set_option maxHeartbeats 4000000 in
theorem cRd_place {l : Launch} {w : nt_w} (hw : nt_isD w) {g : nt_T} {r : Int32} (hf : fRd_place g = some r) : nt_Mi l w yX1_place cX1_place 1 (some .int) 1 [.ref (nt_a w 10)] g r g := by
  refine nt_Mi_of (by decide) (Nat.le_of_ble_eq_true rfl) (fun p e s m args below meth c A X => ?_)
  have X : nt_X cX1_place 1 RX1 (some .int) w A p s m args meth c := X
  have hg : g = g := rfl
  have h : nt_R (fRd_place g) (fun z => z = r) := ⟨_, hf, rfl⟩
  unfold fRd_place at h
  show nt_G p l e (nt_rm 1) s m args below meth c w A 0 0 (nt_Qi w A below args s r g) 1 0 [(0, .ref (nt_a w 10))] [] g
  refine nt_aload_n X dX1_place_0 rfl 0 rfl ?_
  refine nt_get X 10 inX1 (nt_lD hw (Nat.le_of_ble_eq_true rfl)) (nt_d10 hw) rfl (j := 4) (by decide) wd_65 (v := .int (g 10 4)) rfl dX1_place_1 ?_
  have h := nt_R_some h
  exact nt_iret X dX1_place_4 (nt_pe h hg)
def fRd_levelOf (x0 : Int32) (g : nt_T) : Option (Int32) :=
  (if x0 = 6 then
    (some (0 : Int32))
  else
    (if x0 = 7 then
    (some (1 : Int32))
  else
    (if x0 = 8 then
    (some (-1 : Int32))
  else
    (if x0 = 9 then
    (some (-1 : Int32))
  else
    (if x0 = 10 then
    (some (-1 : Int32))
  else
    (if x0 = 11 then
    (some (-1 : Int32))
  else
    (if x0 = 12 then
    (some (-1 : Int32))
  else
    (if x0 = 13 then
    (some (-1 : Int32))
  else
    (if x0 = 14 then
    (some (-1 : Int32))
  else
    (if x0 = 15 then
    (some (3 : Int32))
  else
    (if x0 = 16 then
    (some (3 : Int32))
  else
    (if x0 = 17 then
    (some (4 : Int32))
  else
    (if x0 = 18 then
    (some (2 : Int32))
  else
    (if x0 = 19 then
    (some (2 : Int32))
  else
    some (-1 : Int32)))))))))))))))
set_option maxRecDepth 100000 in
set_option maxHeartbeats 4000000 in
theorem cRd_levelOf {l : Launch} {w : nt_w} (hw : nt_isD w) {x0 : Int32} {g : nt_T} {r : Int32} (hf : fRd_levelOf x0 g = some r) : nt_Mi l w yX1_levelOf cX1_levelOf 1 (some .int) 1 [.int x0] g r g := by
  refine nt_Mi_of (by decide) (Nat.le_of_ble_eq_true rfl) (fun p e s m args below meth c A X => ?_)
  have X : nt_X cX1_levelOf 1 RX1 (some .int) w A p s m args meth c := X
  have hg : g = g := rfl
  have h : nt_R (fRd_levelOf x0 g) (fun z => z = r) := ⟨_, hf, rfl⟩
  unfold fRd_levelOf at h
  show nt_G p l e (nt_rm 1) s m args below meth c w A 0 0 (nt_Qi w A below args s r g) 1 0 [(0, .int x0)] [] g
  refine nt_iload_n X dX1_levelOf_0 rfl 0 rfl ?_
  obtain ⟨ht, hf⟩ := nt_R_if h
  rcases Decidable.em (x0 = 6) with q1_6 | q1_6
  · have h := ht q1_6
    refine nt_tblIn X 72 dX1_levelOf_1 (off := 71) (by rw [q1_6]; decide) (by rw [q1_6]; decide) (by rw [q1_6]; rfl) (by decide) ?_
    refine nt_iconst X dX1_levelOf_72 nt_ci_0 ?_
    have h := nt_R_some h
    exact nt_iret X dX1_levelOf_73 (nt_pe h hg)
  · have h := hf q1_6
    obtain ⟨ht, hf⟩ := nt_R_if h
    rcases Decidable.em (x0 = 7) with q1_7 | q1_7
    · have h := ht q1_7
      refine nt_tblIn X 74 dX1_levelOf_1 (off := 73) (by rw [q1_7]; decide) (by rw [q1_7]; decide) (by rw [q1_7]; rfl) (by decide) ?_
      refine nt_iconst X dX1_levelOf_74 nt_ci_1 ?_
      have h := nt_R_some h
      exact nt_iret X dX1_levelOf_75 (nt_pe h hg)
    · have h := hf q1_7
      obtain ⟨ht, hf⟩ := nt_R_if h
      rcases Decidable.em (x0 = 8) with q1_8 | q1_8
      · have h := ht q1_8
        refine nt_tblIn X 82 dX1_levelOf_1 (off := 81) (by rw [q1_8]; decide) (by rw [q1_8]; decide) (by rw [q1_8]; rfl) (by decide) ?_
        refine nt_iconst X dX1_levelOf_82 nt_ci_m1 ?_
        have h := nt_R_some h
        exact nt_iret X dX1_levelOf_83 (nt_pe h hg)
      · have h := hf q1_8
        obtain ⟨ht, hf⟩ := nt_R_if h
        rcases Decidable.em (x0 = 9) with q1_9 | q1_9
        · have h := ht q1_9
          refine nt_tblIn X 82 dX1_levelOf_1 (off := 81) (by rw [q1_9]; decide) (by rw [q1_9]; decide) (by rw [q1_9]; rfl) (by decide) ?_
          refine nt_iconst X dX1_levelOf_82 nt_ci_m1 ?_
          have h := nt_R_some h
          exact nt_iret X dX1_levelOf_83 (nt_pe h hg)
        · have h := hf q1_9
          obtain ⟨ht, hf⟩ := nt_R_if h
          rcases Decidable.em (x0 = 10) with q1_10 | q1_10
          · have h := ht q1_10
            refine nt_tblIn X 82 dX1_levelOf_1 (off := 81) (by rw [q1_10]; decide) (by rw [q1_10]; decide) (by rw [q1_10]; rfl) (by decide) ?_
            refine nt_iconst X dX1_levelOf_82 nt_ci_m1 ?_
            have h := nt_R_some h
            exact nt_iret X dX1_levelOf_83 (nt_pe h hg)
          · have h := hf q1_10
            obtain ⟨ht, hf⟩ := nt_R_if h
            rcases Decidable.em (x0 = 11) with q1_11 | q1_11
            · have h := ht q1_11
              refine nt_tblIn X 82 dX1_levelOf_1 (off := 81) (by rw [q1_11]; decide) (by rw [q1_11]; decide) (by rw [q1_11]; rfl) (by decide) ?_
              refine nt_iconst X dX1_levelOf_82 nt_ci_m1 ?_
              have h := nt_R_some h
              exact nt_iret X dX1_levelOf_83 (nt_pe h hg)
            · have h := hf q1_11
              obtain ⟨ht, hf⟩ := nt_R_if h
              rcases Decidable.em (x0 = 12) with q1_12 | q1_12
              · have h := ht q1_12
                refine nt_tblIn X 82 dX1_levelOf_1 (off := 81) (by rw [q1_12]; decide) (by rw [q1_12]; decide) (by rw [q1_12]; rfl) (by decide) ?_
                refine nt_iconst X dX1_levelOf_82 nt_ci_m1 ?_
                have h := nt_R_some h
                exact nt_iret X dX1_levelOf_83 (nt_pe h hg)
              · have h := hf q1_12
                obtain ⟨ht, hf⟩ := nt_R_if h
                rcases Decidable.em (x0 = 13) with q1_13 | q1_13
                · have h := ht q1_13
                  refine nt_tblIn X 82 dX1_levelOf_1 (off := 81) (by rw [q1_13]; decide) (by rw [q1_13]; decide) (by rw [q1_13]; rfl) (by decide) ?_
                  refine nt_iconst X dX1_levelOf_82 nt_ci_m1 ?_
                  have h := nt_R_some h
                  exact nt_iret X dX1_levelOf_83 (nt_pe h hg)
                · have h := hf q1_13
                  obtain ⟨ht, hf⟩ := nt_R_if h
                  rcases Decidable.em (x0 = 14) with q1_14 | q1_14
                  · have h := ht q1_14
                    refine nt_tblIn X 82 dX1_levelOf_1 (off := 81) (by rw [q1_14]; decide) (by rw [q1_14]; decide) (by rw [q1_14]; rfl) (by decide) ?_
                    refine nt_iconst X dX1_levelOf_82 nt_ci_m1 ?_
                    have h := nt_R_some h
                    exact nt_iret X dX1_levelOf_83 (nt_pe h hg)
                  · have h := hf q1_14
                    obtain ⟨ht, hf⟩ := nt_R_if h
                    rcases Decidable.em (x0 = 15) with q1_15 | q1_15
                    · have h := ht q1_15
                      refine nt_tblIn X 78 dX1_levelOf_1 (off := 77) (by rw [q1_15]; decide) (by rw [q1_15]; decide) (by rw [q1_15]; rfl) (by decide) ?_
                      refine nt_iconst X dX1_levelOf_78 nt_ci_3 ?_
                      have h := nt_R_some h
                      exact nt_iret X dX1_levelOf_79 (nt_pe h hg)
                    · have h := hf q1_15
                      obtain ⟨ht, hf⟩ := nt_R_if h
                      rcases Decidable.em (x0 = 16) with q1_16 | q1_16
                      · have h := ht q1_16
                        refine nt_tblIn X 78 dX1_levelOf_1 (off := 77) (by rw [q1_16]; decide) (by rw [q1_16]; decide) (by rw [q1_16]; rfl) (by decide) ?_
                        refine nt_iconst X dX1_levelOf_78 nt_ci_3 ?_
                        have h := nt_R_some h
                        exact nt_iret X dX1_levelOf_79 (nt_pe h hg)
                      · have h := hf q1_16
                        obtain ⟨ht, hf⟩ := nt_R_if h
                        rcases Decidable.em (x0 = 17) with q1_17 | q1_17
                        · have h := ht q1_17
                          refine nt_tblIn X 80 dX1_levelOf_1 (off := 79) (by rw [q1_17]; decide) (by rw [q1_17]; decide) (by rw [q1_17]; rfl) (by decide) ?_
                          refine nt_iconst X dX1_levelOf_80 nt_ci_4 ?_
                          have h := nt_R_some h
                          exact nt_iret X dX1_levelOf_81 (nt_pe h hg)
                        · have h := hf q1_17
                          obtain ⟨ht, hf⟩ := nt_R_if h
                          rcases Decidable.em (x0 = 18) with q1_18 | q1_18
                          · have h := ht q1_18
                            refine nt_tblIn X 76 dX1_levelOf_1 (off := 75) (by rw [q1_18]; decide) (by rw [q1_18]; decide) (by rw [q1_18]; rfl) (by decide) ?_
                            refine nt_iconst X dX1_levelOf_76 nt_ci_2 ?_
                            have h := nt_R_some h
                            exact nt_iret X dX1_levelOf_77 (nt_pe h hg)
                          · have h := hf q1_18
                            obtain ⟨ht, hf⟩ := nt_R_if h
                            rcases Decidable.em (x0 = 19) with q1_19 | q1_19
                            · have h := ht q1_19
                              refine nt_tblIn X 76 dX1_levelOf_1 (off := 75) (by rw [q1_19]; decide) (by rw [q1_19]; decide) (by rw [q1_19]; rfl) (by decide) ?_
                              refine nt_iconst X dX1_levelOf_76 nt_ci_2 ?_
                              have h := nt_R_some h
                              exact nt_iret X dX1_levelOf_77 (nt_pe h hg)
                            · have h := hf q1_19
                              refine nt_tblOut X 82 dX1_levelOf_1 (by have w6 := lv_neT q1_6 (a := 6) (by decide); have w7 := lv_neT q1_7 (a := 7) (by decide); have w8 := lv_neT q1_8 (a := 8) (by decide); have w9 := lv_neT q1_9 (a := 9) (by decide); have w10 := lv_neT q1_10 (a := 10) (by decide); have w11 := lv_neT q1_11 (a := 11) (by decide); have w12 := lv_neT q1_12 (a := 12) (by decide); have w13 := lv_neT q1_13 (a := 13) (by decide); have w14 := lv_neT q1_14 (a := 14) (by decide); have w15 := lv_neT q1_15 (a := 15) (by decide); have w16 := lv_neT q1_16 (a := 16) (by decide); have w17 := lv_neT q1_17 (a := 17) (by decide); have w18 := lv_neT q1_18 (a := 18) (by decide); have w19 := lv_neT q1_19 (a := 19) (by decide); omega) (by decide) ?_
                              refine nt_iconst X dX1_levelOf_82 nt_ci_m1 ?_
                              have h := nt_R_some h
                              exact nt_iret X dX1_levelOf_83 (nt_pe h hg)
def fRd_write (x1 : Int32) (g : nt_T) : Option (nt_T) :=
  (if (160 : Int32) ≤ (g 10 7) then
    (some g)
  else
    (nt_gd (nt_in (g 10 7) 160) <| nt_lt (nt_st g 12 (Int32.toNatClampNeg (g 10 7)) x1) fun g3 => nt_lt (nt_st g3 10 7 ((g3 10 7) + (1 : Int32))) fun g4 => some g4))
set_option maxRecDepth 100000 in
set_option maxHeartbeats 4000000 in
theorem cRd_write {l : Launch} {w : nt_w} (hw : nt_isD w) {x1 : Int32} {g : nt_T} {g2 : nt_T} (hf : fRd_write x1 g = some g2) : nt_Mv l w yX1_write cX1_write 2 none 1 [.ref (nt_a w 10), .int x1] g g2 := by
  refine nt_Mv_of (by decide) (Nat.le_of_ble_eq_true rfl) (fun p e s m args below meth c A X => ?_)
  have X : nt_X cX1_write 2 RX1 none w A p s m args meth c := X
  have h : nt_R (fRd_write x1 g) (fun z => z = g2) := ⟨_, hf, rfl⟩
  unfold fRd_write at h
  show nt_G p l e (nt_rm 1) s m args below meth c w A 0 0 (nt_Qv w A below args s g2) 2 0 [(0, .ref (nt_a w 10)), (1, .int x1)] [] g
  refine nt_aload_n X dX1_write_0 rfl 0 rfl ?_
  refine nt_get X 10 inX1 (nt_lD hw (Nat.le_of_ble_eq_true rfl)) (nt_d10 hw) rfl (j := 7) (by decide) wd_68 (v := .int (g 10 7)) rfl dX1_write_1 ?_
  refine nt_sipush X dX1_write_4 nt_cs_160 ?_
  obtain ⟨ht, hf⟩ := nt_R_if h
  refine nt_icmp_ge X 30 dX1_write_7 (by decide) (fun q1 => ?_) (fun q1 => ?_)
  · have h := ht q1
    have h := nt_R_some h
    exact nt_vret X dX1_write_30 h
  · have h := hf q1
    refine nt_aload_n X dX1_write_10 rfl 0 rfl ?_
    refine nt_get X 10 inX1 (nt_lD hw (Nat.le_of_ble_eq_true rfl)) (nt_d10 hw) rfl (j := 6) (by decide) wd_67 (v := .ref (nt_a w 12)) rfl dX1_write_11 ?_
    refine nt_aload_n X dX1_write_14 rfl 0 rfl ?_
    refine nt_get X 10 inX1 (nt_lD hw (Nat.le_of_ble_eq_true rfl)) (nt_d10 hw) rfl (j := 7) (by decide) wd_68 (v := .int (g 10 7)) rfl dX1_write_15 ?_
    refine nt_iload_n X dX1_write_18 rfl 1 rfl ?_
    obtain ⟨q2, h⟩ := nt_R_gd h
    refine nt_iast X 12 0 (nt_lD hw (Nat.le_of_ble_eq_true rfl)) (nt_d12 hw) (nt_tD hw) q2 dX1_write_19 ?_
    obtain ⟨g3, eg3, h⟩ := nt_R_lt h
    refine nt_geq eg3 ?_
    refine nt_aload_n X dX1_write_20 rfl 0 rfl ?_
    refine nt_dup X dX1_write_21 rfl ?_
    refine nt_get X 10 inX1 (nt_lD hw (Nat.le_of_ble_eq_true rfl)) (nt_d10 hw) rfl (j := 7) (by decide) wd_68 (v := .int (g3 10 7)) rfl dX1_write_22 ?_
    refine nt_iconst X dX1_write_25 nt_ci_1 ?_
    refine nt_iadd X dX1_write_26 ?_
    refine nt_put X 10 inX1 (nt_lD hw (Nat.le_of_ble_eq_true rfl)) (nt_d10 hw) rfl (j := 7) (by decide) wd_68 tyX1 tyX1_ok nmX1 rfl (ty := .int) rfl rfl rfl (fun _ => Nat.le_of_ble_eq_true rfl) (fun _ => rfl) dX1_write_27 ?_
    obtain ⟨g4, eg4, h⟩ := nt_R_lt h
    refine nt_geq eg4 ?_
    have h := nt_R_some h
    exact nt_vret X dX1_write_30 h
def fRd_isLetter (x0 : Int32) (g : nt_T) : Option (Int32) :=
  (if x0 < (97 : Int32) then
    (some (0 : Int32))
  else
    ((if (122 : Int32) < x0 then
    (some (0 : Int32))
  else
    (some (1 : Int32)))))
set_option maxRecDepth 100000 in
set_option maxHeartbeats 4000000 in
theorem cRd_isLetter {l : Launch} {w : nt_w} (hw : nt_isD w) {x0 : Int32} {g : nt_T} {r : Int32} (hf : fRd_isLetter x0 g = some r) : nt_Mi l w yX1_isLetter cX1_isLetter 1 (some .boolean) 1 [.int x0] g r g := by
  refine nt_Mi_of (by decide) (Nat.le_of_ble_eq_true rfl) (fun p e s m args below meth c A X => ?_)
  have X : nt_X cX1_isLetter 1 RX1 (some .boolean) w A p s m args meth c := X
  have hg : g = g := rfl
  have h : nt_R (fRd_isLetter x0 g) (fun z => z = r) := ⟨_, hf, rfl⟩
  unfold fRd_isLetter at h
  show nt_G p l e (nt_rm 1) s m args below meth c w A 0 0 (nt_Qi w A below args s r g) 1 0 [(0, .int x0)] [] g
  refine nt_iload_n X dX1_isLetter_0 rfl 0 rfl ?_
  refine nt_bipush X dX1_isLetter_1 nt_cb_97 ?_
  obtain ⟨ht, hf⟩ := nt_R_if h
  refine nt_icmp_lt X 16 dX1_isLetter_3 (by decide) (fun q1 => ?_) (fun q1 => ?_)
  · have h := ht q1
    refine nt_iconst X dX1_isLetter_16 nt_ci_0 ?_
    have h := nt_R_some h
    exact nt_zret X rfl dX1_isLetter_17 (nt_pe h hg)
  · have h := hf q1
    refine nt_iload_n X dX1_isLetter_6 rfl 0 rfl ?_
    refine nt_bipush X dX1_isLetter_7 nt_cb_122 ?_
    obtain ⟨ht, hf⟩ := nt_R_if h
    refine nt_icmp_gt X 16 dX1_isLetter_9 (by decide) (fun q2 => ?_) (fun q2 => ?_)
    · have h := ht q2
      refine nt_iconst X dX1_isLetter_16 nt_ci_0 ?_
      have h := nt_R_some h
      exact nt_zret X rfl dX1_isLetter_17 (nt_pe h hg)
    · have h := hf q2
      refine nt_iconst X dX1_isLetter_12 nt_ci_1 ?_
      refine nt_goto X 17 dX1_isLetter_13 (by decide) ?_
      have h := nt_R_some h
      exact nt_zret X rfl dX1_isLetter_17 (nt_pe h hg)
def bRd_word_0 (g : nt_T) : Option ((nt_T) ⊕ ((nt_T))) :=
  (if (g 10 1) ≤ (g 10 2) then
    (some (.inr g))
  else
    (nt_gd (nt_in (g 10 2) 160) <| nt_b1 (fRd_isLetter (g 11 (Int32.toNatClampNeg (g 10 2))) g) fun r3 => (if r3 = 0 then
    (some (.inr g))
  else
    (nt_lt (nt_st g 10 2 ((g 10 2) + (1 : Int32))) fun g5 => some (.inl g5)))))
set_option maxRecDepth 100000 in
set_option maxHeartbeats 4000000 in
theorem tbRd_word_0 {p : Program} {l : Launch} {e : Env} {s : State} {m : MethodId} {args : Array Value} {below : List Frame} {meth : Method} {c : Code} {w : nt_w} {A : Nat → Prop} (hw : nt_isD w) {Q : State → Prop} (X : nt_X cX1_word 5 RX1 (some .int) w A p s m args meth c)  {Qx : ((nt_T)) → Prop} (hE0 : ∀ (gy : nt_T), Qx gy → nt_G p l e (nt_rm 9) s m args below meth c w A 0 0 Q 5 39 [(0, .ref (nt_a w 10))] [] gy) : ∀ (n : Nat) (g : nt_T), nt_R (nt_it (fun z => bRd_word_0 z) n g) Qx → nt_G p l e (nt_rm 9) s m args below meth c w A 0 0 Q 5 0 [(0, .ref (nt_a w 10))] [] g := by
  intro n
  induction n with
  | zero =>
    intro g h
    exact nt_R_none h
  | succ n ih =>
    intro g h
    have h : nt_R (bRd_word_0 g) (nt_Qz (fun z => bRd_word_0 z) n Qx) := nt_R_it h
    have hI : ∀ (gy : nt_T), nt_Qz (fun z => bRd_word_0 z) n Qx (.inl gy) → nt_G p l e (nt_rm 9) s m args below meth c w A 0 0 Q 5 0 [(0, .ref (nt_a w 10))] [] gy := fun  gy q => ih  gy q
    have hE0 : ∀ (gy : nt_T), nt_Qz (fun z => bRd_word_0 z) n Qx (.inr gy) → nt_G p l e (nt_rm 9) s m args below meth c w A 0 0 Q 5 39 [(0, .ref (nt_a w 10))] [] gy := hE0
    generalize nt_Qz (fun z => bRd_word_0 z) n Qx = Qz at h hI hE0
    unfold bRd_word_0 at h
    refine nt_aload_n X dX1_word_0 rfl 0 rfl ?_
    refine nt_get X 10 inX1 (nt_lD hw (Nat.le_of_ble_eq_true rfl)) (nt_d10 hw) rfl (j := 2) (by decide) wd_63 (v := .int (g 10 2)) rfl dX1_word_1 ?_
    refine nt_aload_n X dX1_word_4 rfl 0 rfl ?_
    refine nt_get X 10 inX1 (nt_lD hw (Nat.le_of_ble_eq_true rfl)) (nt_d10 hw) rfl (j := 1) (by decide) wd_62 (v := .int (g 10 1)) rfl dX1_word_5 ?_
    obtain ⟨ht, hf⟩ := nt_R_if h
    refine nt_icmp_ge X 39 dX1_word_8 (by decide) (fun q1 => ?_) (fun q1 => ?_)
    · have h := ht q1
      refine nt_sub [0] rfl ?_
      have h := nt_R_some h
      exact hE0 g h
    · have h := hf q1
      refine nt_aload_n X dX1_word_11 rfl 0 rfl ?_
      refine nt_get X 10 inX1 (nt_lD hw (Nat.le_of_ble_eq_true rfl)) (nt_d10 hw) rfl (j := 0) (by decide) wd_61 (v := .ref (nt_a w 11)) rfl dX1_word_12 ?_
      refine nt_aload_n X dX1_word_15 rfl 0 rfl ?_
      refine nt_get X 10 inX1 (nt_lD hw (Nat.le_of_ble_eq_true rfl)) (nt_d10 hw) rfl (j := 2) (by decide) wd_63 (v := .int (g 10 2)) rfl dX1_word_16 ?_
      obtain ⟨q2, h⟩ := nt_R_gd h
      refine nt_iald X 11 0 (nt_lD hw (Nat.le_of_ble_eq_true rfl)) (nt_d11 hw) (nt_tD hw) q2 dX1_word_19 ?_
      obtain ⟨r3, er3, h⟩ := nt_R_b1 h
      refine nt_cSi X (As := [.int (g 11 (Int32.toNatClampNeg (g 10 2)))]) (cRd_isLetter hw er3) wd_134 wd_132 wd_133 wd_4 hd_X1_isLetter ⟨Nat.le_of_ble_eq_true rfl, Nat.le_of_ble_eq_true rfl⟩ ⟨Nat.le_refl 0, Nat.le_refl 0⟩ (Nat.le_of_ble_eq_true rfl) rfl dX1_word_20 ?_
      obtain ⟨ht, hf⟩ := nt_R_if h
      refine nt_if_eq X 39 dX1_word_23 (by decide) (fun q4 => ?_) (fun q4 => ?_)
      · have h := ht q4
        refine nt_sub [0] rfl ?_
        have h := nt_R_some h
        exact hE0 g h
      · have h := hf q4
        refine nt_aload_n X dX1_word_26 rfl 0 rfl ?_
        refine nt_dup X dX1_word_27 rfl ?_
        refine nt_get X 10 inX1 (nt_lD hw (Nat.le_of_ble_eq_true rfl)) (nt_d10 hw) rfl (j := 2) (by decide) wd_63 (v := .int (g 10 2)) rfl dX1_word_28 ?_
        refine nt_iconst X dX1_word_31 nt_ci_1 ?_
        refine nt_iadd X dX1_word_32 ?_
        refine nt_put X 10 inX1 (nt_lD hw (Nat.le_of_ble_eq_true rfl)) (nt_d10 hw) rfl (j := 2) (by decide) wd_63 tyX1 tyX1_ok nmX1 rfl (ty := .int) rfl rfl rfl (fun _ => Nat.le_of_ble_eq_true rfl) (fun _ => rfl) dX1_word_33 ?_
        obtain ⟨g5, eg5, h⟩ := nt_R_lt h
        refine nt_geq eg5 ?_
        refine nt_goto X 0 dX1_word_36 (by decide) ?_
        refine nt_sub [0] rfl ?_
        have h := nt_R_some h
        exact hI g5 h
def bRd_word_45 (x1 : Int32) (x2 : Int32) (x3 : Int32) (g : nt_T) : Option ((Int32 × Int32 × Int32 × nt_T) ⊕ ((Int32 × nt_T) ⊕ (nt_T))) :=
  nt_b1 (fJs_length_8abf5 1 g) fun r7 => (if r7 ≤ x3 then
    (some (.inr (.inr g)))
  else
    (nt_b2 (fJs_charAt_5068e 1 x3 g) fun r9 g10 => (if r9 = (32 : Int32) then
    ((if x2 = ((g10 10 2) - (g10 10 4)) then
    (some (.inr (.inl (x1, g10))))
  else
    (nt_lt (x1 + (1 : Int32)) fun v22 => nt_lt (x3 + (1 : Int32)) fun v23 => some (.inl (v22, (0 : Int32), v23, g10)))))
  else
    ((if x2 = (-1 : Int32) then
    (nt_lt (x3 + (1 : Int32)) fun v13 => some (.inl (x1, x2, v13, g10)))
  else
    ((if ((g10 10 2) - (g10 10 4)) ≤ x2 then
    (nt_lt (x3 + (1 : Int32)) fun v15 => some (.inl (x1, (-1 : Int32), v15, g10)))
  else
    (nt_gd (nt_in ((g10 10 4) + x2) 160) <| (if (g10 11 (Int32.toNatClampNeg ((g10 10 4) + x2))) = r9 then
    (nt_lt (x2 + (1 : Int32)) fun v19 => nt_lt (x3 + (1 : Int32)) fun v20 => some (.inl (x1, v19, v20, g10)))
  else
    (nt_lt (x3 + (1 : Int32)) fun v18 => some (.inl (x1, (-1 : Int32), v18, g10))))))))))))
set_option maxRecDepth 100000 in
set_option maxHeartbeats 4000000 in
theorem tbRd_word_45 {p : Program} {l : Launch} {e : Env} {s : State} {m : MethodId} {args : Array Value} {below : List Frame} {meth : Method} {c : Code} {w : nt_w} {A : Nat → Prop} (hw : nt_isD w) {Q : State → Prop} (X : nt_X cX1_word 5 RX1 (some .int) w A p s m args meth c)  {Qx : ((Int32 × nt_T) ⊕ (nt_T)) → Prop} (hE0 : ∀ (y1 : Int32) (gy : nt_T), Qx (.inl (y1, gy)) → nt_G p l e (nt_rm 9) s m args below meth c w A 0 0 Q 5 82 [(0, .ref (nt_a w 10)), (1, .int y1)] [] gy) (hE1 : ∀ (gy : nt_T), Qx (.inr gy) → nt_G p l e (nt_rm 9) s m args below meth c w A 0 0 Q 5 140 [(0, .ref (nt_a w 10))] [] gy) : ∀ (n : Nat) (x1 : Int32) (x2 : Int32) (x3 : Int32) (g : nt_T), nt_R (nt_it (fun z => bRd_word_45 z.1 z.2.1 z.2.2.1 z.2.2.2) n (x1, x2, x3, g)) Qx → nt_G p l e (nt_rm 9) s m args below meth c w A 0 0 Q 5 45 [(0, .ref (nt_a w 10)), (1, .int x1), (2, .int x2), (3, .int x3)] [] g := by
  intro n
  induction n with
  | zero =>
    intro x1 x2 x3 g h
    exact nt_R_none h
  | succ n ih =>
    intro x1 x2 x3 g h
    have h : nt_R (bRd_word_45 x1 x2 x3 g) (nt_Qz (fun z => bRd_word_45 z.1 z.2.1 z.2.2.1 z.2.2.2) n Qx) := nt_R_it h
    have hI : ∀ (y1 : Int32) (y2 : Int32) (y3 : Int32) (gy : nt_T), nt_Qz (fun z => bRd_word_45 z.1 z.2.1 z.2.2.1 z.2.2.2) n Qx (.inl (y1, y2, y3, gy)) → nt_G p l e (nt_rm 9) s m args below meth c w A 0 0 Q 5 45 [(0, .ref (nt_a w 10)), (1, .int y1), (2, .int y2), (3, .int y3)] [] gy := fun y1 y2 y3 gy q => ih y1 y2 y3 gy q
    have hE0 : ∀ (y1 : Int32) (gy : nt_T), nt_Qz (fun z => bRd_word_45 z.1 z.2.1 z.2.2.1 z.2.2.2) n Qx (.inr (.inl (y1, gy))) → nt_G p l e (nt_rm 9) s m args below meth c w A 0 0 Q 5 82 [(0, .ref (nt_a w 10)), (1, .int y1)] [] gy := hE0
    have hE1 : ∀ (gy : nt_T), nt_Qz (fun z => bRd_word_45 z.1 z.2.1 z.2.2.1 z.2.2.2) n Qx (.inr (.inr gy)) → nt_G p l e (nt_rm 9) s m args below meth c w A 0 0 Q 5 140 [(0, .ref (nt_a w 10))] [] gy := hE1
    generalize nt_Qz (fun z => bRd_word_45 z.1 z.2.1 z.2.2.1 z.2.2.2) n Qx = Qz at h hI hE0 hE1
    unfold bRd_word_45 at h
    refine nt_iload_n X dX1_word_45 rfl 3 rfl ?_
    refine nt_ldcS1 X rfl dX1_word_46 ?_
    obtain ⟨r7, er7, h⟩ := nt_R_b1 h
    refine nt_cKi X (As := []) (i := 1) (by decide) (cJs_length_8abf5 hw (by decide) er7) wd_84 wd_81 wd_82 wd_83 wd_5 rfl hd_J0_length_8abf5 ⟨Nat.le_of_ble_eq_true rfl, Nat.le_of_ble_eq_true rfl⟩ ⟨Nat.le_refl 0, Nat.le_refl 0⟩ (Nat.le_of_ble_eq_true rfl) rfl dX1_word_48 ?_
    obtain ⟨ht, hf⟩ := nt_R_if h
    refine nt_icmp_ge X 140 dX1_word_51 (by decide) (fun q8 => ?_) (fun q8 => ?_)
    · have h := ht q8
      refine nt_sub [0] rfl ?_
      have h := nt_R_some h
      exact hE1 g h
    · have h := hf q8
      refine nt_ldcS1 X rfl dX1_word_54 ?_
      refine nt_iload_n X dX1_word_56 rfl 3 rfl ?_
      obtain ⟨r9, g10, er9, h⟩ := nt_R_b2 h
      refine nt_cKi X (As := [.int x3]) (i := 1) (by decide) (cJs_charAt_5068e hw (by decide) er9) wd_93 wd_90 wd_91 wd_92 wd_5 rfl hd_J0_charAt_5068e ⟨Nat.le_of_ble_eq_true rfl, Nat.le_of_ble_eq_true rfl⟩ ⟨Nat.le_refl 0, Nat.le_refl 0⟩ (Nat.le_of_ble_eq_true rfl) rfl dX1_word_57 ?_
      refine nt_istore X [(4, .int r9), (0, .ref (nt_a w 10)), (1, .int x1), (2, .int x2), (3, .int x3)] dX1_word_60 (by decide) rfl ?_
      refine nt_iload X dX1_word_62 0 rfl ?_
      refine nt_bipush X dX1_word_64 nt_cb_32 ?_
      obtain ⟨ht, hf⟩ := nt_R_if h
      refine nt_icmp_ne X 92 dX1_word_66 (by decide) (fun q11 => ?_) (fun q11 => ?_)
      · have h := hf q11
        refine nt_iload_n X dX1_word_92 rfl 3 rfl ?_
        refine nt_iconst X dX1_word_93 nt_ci_m1 ?_
        obtain ⟨ht, hf⟩ := nt_R_if h
        refine nt_icmp_eq X 134 dX1_word_94 (by decide) (fun q12 => ?_) (fun q12 => ?_)
        · have h := ht q12
          obtain ⟨v13, ev13, h⟩ := nt_R_lt h
          refine nt_iinc X v13 [(3, .int v13), (4, .int r9), (0, .ref (nt_a w 10)), (1, .int x1), (2, .int x2)] dX1_word_134 4 rfl (by rw [nt_ci_1]; exact ev13) (by decide) rfl ?_
          refine nt_goto X 45 dX1_word_137 (by decide) ?_
          refine nt_sub [2, 3, 4, 0] rfl ?_
          have h := nt_R_some h
          exact hI x1 x2 v13 g10 h
        · have h := hf q12
          refine nt_iload_n X dX1_word_97 rfl 3 rfl ?_
          refine nt_aload_n X dX1_word_98 rfl 1 rfl ?_
          refine nt_get X 10 inX1 (nt_lD hw (Nat.le_of_ble_eq_true rfl)) (nt_d10 hw) rfl (j := 2) (by decide) wd_63 (v := .int (g10 10 2)) rfl dX1_word_99 ?_
          refine nt_aload_n X dX1_word_102 rfl 1 rfl ?_
          refine nt_get X 10 inX1 (nt_lD hw (Nat.le_of_ble_eq_true rfl)) (nt_d10 hw) rfl (j := 4) (by decide) wd_65 (v := .int (g10 10 4)) rfl dX1_word_103 ?_
          refine nt_isub X dX1_word_106 ?_
          obtain ⟨ht, hf⟩ := nt_R_if h
          refine nt_icmp_ge X 132 dX1_word_107 (by decide) (fun q14 => ?_) (fun q14 => ?_)
          · have h := ht q14
            refine nt_iconst X dX1_word_132 nt_ci_m1 ?_
            refine nt_istore_n X [(2, .int (-1 : Int32)), (4, .int r9), (0, .ref (nt_a w 10)), (1, .int x1), (3, .int x3)] dX1_word_133 rfl (by decide) rfl ?_
            obtain ⟨v15, ev15, h⟩ := nt_R_lt h
            refine nt_iinc X v15 [(3, .int v15), (2, .int (-1 : Int32)), (4, .int r9), (0, .ref (nt_a w 10)), (1, .int x1)] dX1_word_134 4 rfl (by rw [nt_ci_1]; exact ev15) (by decide) rfl ?_
            refine nt_goto X 45 dX1_word_137 (by decide) ?_
            refine nt_sub [3, 4, 1, 0] rfl ?_
            have h := nt_R_some h
            exact hI x1 (-1 : Int32) v15 g10 h
          · have h := hf q14
            refine nt_aload_n X dX1_word_110 rfl 1 rfl ?_
            refine nt_get X 10 inX1 (nt_lD hw (Nat.le_of_ble_eq_true rfl)) (nt_d10 hw) rfl (j := 0) (by decide) wd_61 (v := .ref (nt_a w 11)) rfl dX1_word_111 ?_
            refine nt_aload_n X dX1_word_114 rfl 1 rfl ?_
            refine nt_get X 10 inX1 (nt_lD hw (Nat.le_of_ble_eq_true rfl)) (nt_d10 hw) rfl (j := 4) (by decide) wd_65 (v := .int (g10 10 4)) rfl dX1_word_115 ?_
            refine nt_iload_n X dX1_word_118 rfl 3 rfl ?_
            refine nt_iadd X dX1_word_119 ?_
            obtain ⟨q16, h⟩ := nt_R_gd h
            refine nt_iald X 11 0 (nt_lD hw (Nat.le_of_ble_eq_true rfl)) (nt_d11 hw) (nt_tD hw) q16 dX1_word_120 ?_
            refine nt_iload X dX1_word_121 0 rfl ?_
            obtain ⟨ht, hf⟩ := nt_R_if h
            refine nt_icmp_ne X 132 dX1_word_123 (by decide) (fun q17 => ?_) (fun q17 => ?_)
            · have h := hf q17
              refine nt_iconst X dX1_word_132 nt_ci_m1 ?_
              refine nt_istore_n X [(2, .int (-1 : Int32)), (4, .int r9), (0, .ref (nt_a w 10)), (1, .int x1), (3, .int x3)] dX1_word_133 rfl (by decide) rfl ?_
              obtain ⟨v18, ev18, h⟩ := nt_R_lt h
              refine nt_iinc X v18 [(3, .int v18), (2, .int (-1 : Int32)), (4, .int r9), (0, .ref (nt_a w 10)), (1, .int x1)] dX1_word_134 4 rfl (by rw [nt_ci_1]; exact ev18) (by decide) rfl ?_
              refine nt_goto X 45 dX1_word_137 (by decide) ?_
              refine nt_sub [3, 4, 1, 0] rfl ?_
              have h := nt_R_some h
              exact hI x1 (-1 : Int32) v18 g10 h
            · have h := ht q17
              refine nt_iload_n X dX1_word_126 rfl 3 rfl ?_
              refine nt_iconst X dX1_word_127 nt_ci_1 ?_
              refine nt_iadd X dX1_word_128 ?_
              refine nt_goto X 133 dX1_word_129 (by decide) ?_
              obtain ⟨v19, ev19, h⟩ := nt_R_lt h
              refine nt_topi ev19 ?_
              refine nt_istore_n X [(2, .int v19), (4, .int r9), (0, .ref (nt_a w 10)), (1, .int x1), (3, .int x3)] dX1_word_133 rfl (by decide) rfl ?_
              obtain ⟨v20, ev20, h⟩ := nt_R_lt h
              refine nt_iinc X v20 [(3, .int v20), (2, .int v19), (4, .int r9), (0, .ref (nt_a w 10)), (1, .int x1)] dX1_word_134 4 rfl (by rw [nt_ci_1]; exact ev20) (by decide) rfl ?_
              refine nt_goto X 45 dX1_word_137 (by decide) ?_
              refine nt_sub [3, 4, 1, 0] rfl ?_
              have h := nt_R_some h
              exact hI x1 v19 v20 g10 h
      · have h := ht q11
        refine nt_iload_n X dX1_word_69 rfl 3 rfl ?_
        refine nt_aload_n X dX1_word_70 rfl 1 rfl ?_
        refine nt_get X 10 inX1 (nt_lD hw (Nat.le_of_ble_eq_true rfl)) (nt_d10 hw) rfl (j := 2) (by decide) wd_63 (v := .int (g10 10 2)) rfl dX1_word_71 ?_
        refine nt_aload_n X dX1_word_74 rfl 1 rfl ?_
        refine nt_get X 10 inX1 (nt_lD hw (Nat.le_of_ble_eq_true rfl)) (nt_d10 hw) rfl (j := 4) (by decide) wd_65 (v := .int (g10 10 4)) rfl dX1_word_75 ?_
        refine nt_isub X dX1_word_78 ?_
        obtain ⟨ht, hf⟩ := nt_R_if h
        refine nt_icmp_ne X 84 dX1_word_79 (by decide) (fun q21 => ?_) (fun q21 => ?_)
        · have h := hf q21
          obtain ⟨v22, ev22, h⟩ := nt_R_lt h
          refine nt_iinc X v22 [(1, .int v22), (4, .int r9), (0, .ref (nt_a w 10)), (2, .int x2), (3, .int x3)] dX1_word_84 2 rfl (by rw [nt_ci_1]; exact ev22) (by decide) rfl ?_
          refine nt_iconst X dX1_word_87 nt_ci_0 ?_
          refine nt_istore_n X [(2, .int (0 : Int32)), (1, .int v22), (4, .int r9), (0, .ref (nt_a w 10)), (3, .int x3)] dX1_word_88 rfl (by decide) rfl ?_
          refine nt_goto X 134 dX1_word_89 (by decide) ?_
          obtain ⟨v23, ev23, h⟩ := nt_R_lt h
          refine nt_iinc X v23 [(3, .int v23), (2, .int (0 : Int32)), (1, .int v22), (4, .int r9), (0, .ref (nt_a w 10))] dX1_word_134 4 rfl (by rw [nt_ci_1]; exact ev23) (by decide) rfl ?_
          refine nt_goto X 45 dX1_word_137 (by decide) ?_
          refine nt_sub [4, 2, 1, 0] rfl ?_
          have h := nt_R_some h
          exact hI v22 (0 : Int32) v23 g10 h
        · have h := ht q21
          refine nt_sub [1, 2] rfl ?_
          have h := nt_R_some h
          exact hE0 x1 g10 h
def jRd_word_39 (g : nt_T) : Option (Int32 × nt_T) :=
  (nt_b1 (nt_it (fun z => bRd_word_45 z.1 z.2.1 z.2.2.1 z.2.2.2) nt_fu ((0 : Int32), (0 : Int32), (0 : Int32), g)) fun z27 => match z27 with
  | .inl (v24, g25) => some (v24, g25)
  | .inr (g26) => some ((22 : Int32), g26))
set_option maxRecDepth 100000 in
set_option maxHeartbeats 4000000 in
theorem tjRd_word_39 {p : Program} {l : Launch} {e : Env} {s : State} {m : MethodId} {args : Array Value} {below : List Frame} {meth : Method} {c : Code} {w : nt_w} {A : Nat → Prop} (hw : nt_isD w) {r : Int32} {g2 : nt_T}  (X : nt_X cX1_word 5 RX1 (some .int) w A p s m args meth c) (g : nt_T) (h : nt_R (jRd_word_39 g) (fun z => z = (r, g2))) : nt_G p l e (nt_rm 9) s m args below meth c w A 0 0 (nt_Qi w A below args s r g2) 5 39 [(0, .ref (nt_a w 10))] [] g := by
  unfold jRd_word_39 at h
  refine nt_iconst X dX1_word_39 nt_ci_0 ?_
  refine nt_istore_n X [(1, .int (0 : Int32)), (0, .ref (nt_a w 10))] dX1_word_40 rfl (by decide) rfl ?_
  refine nt_iconst X dX1_word_41 nt_ci_0 ?_
  refine nt_istore_n X [(2, .int (0 : Int32)), (1, .int (0 : Int32)), (0, .ref (nt_a w 10))] dX1_word_42 rfl (by decide) rfl ?_
  refine nt_iconst X dX1_word_43 nt_ci_0 ?_
  refine nt_istore_n X [(3, .int (0 : Int32)), (2, .int (0 : Int32)), (1, .int (0 : Int32)), (0, .ref (nt_a w 10))] dX1_word_44 rfl (by decide) rfl ?_
  obtain ⟨z27, hz27, h⟩ := nt_R_b1 h
  refine nt_sub [3, 2, 1, 0] rfl ?_
  refine tbRd_word_45 hw X  (Qx := fun z => z = z27) (fun v24 g25 hq => ?_) (fun g26 hq => ?_) nt_fu (0 : Int32) (0 : Int32) (0 : Int32) g ⟨_, hz27, rfl⟩
  · subst hq
    refine nt_iload_n X dX1_word_82 rfl 1 rfl ?_
    have h := nt_R_some h
    exact nt_iret X dX1_word_83 h
  · subst hq
    refine nt_bipush X dX1_word_140 nt_cb_22 ?_
    have h := nt_R_some h
    exact nt_iret X dX1_word_142 h
def fRd_word (g : nt_T) : Option (Int32 × nt_T) :=
  (nt_b1 (nt_it (fun z => bRd_word_0 z) nt_fu g) fun g6 => jRd_word_39 g6)
set_option maxRecDepth 100000 in
set_option maxHeartbeats 4000000 in
theorem cRd_word {l : Launch} {w : nt_w} (hw : nt_isD w) {g : nt_T} {r : Int32} {g2 : nt_T} (hf : fRd_word g = some (r, g2)) : nt_Mi l w yX1_word cX1_word 5 (some .int) 9 [.ref (nt_a w 10)] g r g2 := by
  refine nt_Mi_of (by decide) (Nat.le_of_ble_eq_true rfl) (fun p e s m args below meth c A X => ?_)
  have X : nt_X cX1_word 5 RX1 (some .int) w A p s m args meth c := X
  have h : nt_R (fRd_word g) (fun z => z = (r, g2)) := ⟨_, hf, rfl⟩
  unfold fRd_word at h
  show nt_G p l e (nt_rm 9) s m args below meth c w A 0 0 (nt_Qi w A below args s r g2) 5 0 [(0, .ref (nt_a w 10))] [] g
  obtain ⟨z28, hz28, h⟩ := nt_R_b1 h
  refine tbRd_word_0 hw X  (Qx := fun z => z = z28) (fun g6 hq => ?_) nt_fu g ⟨_, hz28, rfl⟩
  subst hq
  exact tjRd_word_39 hw X g6 h
def fRd_isDigit (x0 : Int32) (g : nt_T) : Option (Int32) :=
  (if x0 < (48 : Int32) then
    (some (0 : Int32))
  else
    ((if (57 : Int32) < x0 then
    (some (0 : Int32))
  else
    (some (1 : Int32)))))
set_option maxRecDepth 100000 in
set_option maxHeartbeats 4000000 in
theorem cRd_isDigit {l : Launch} {w : nt_w} (hw : nt_isD w) {x0 : Int32} {g : nt_T} {r : Int32} (hf : fRd_isDigit x0 g = some r) : nt_Mi l w yX1_isDigit cX1_isDigit 1 (some .boolean) 1 [.int x0] g r g := by
  refine nt_Mi_of (by decide) (Nat.le_of_ble_eq_true rfl) (fun p e s m args below meth c A X => ?_)
  have X : nt_X cX1_isDigit 1 RX1 (some .boolean) w A p s m args meth c := X
  have hg : g = g := rfl
  have h : nt_R (fRd_isDigit x0 g) (fun z => z = r) := ⟨_, hf, rfl⟩
  unfold fRd_isDigit at h
  show nt_G p l e (nt_rm 1) s m args below meth c w A 0 0 (nt_Qi w A below args s r g) 1 0 [(0, .int x0)] [] g
  refine nt_iload_n X dX1_isDigit_0 rfl 0 rfl ?_
  refine nt_bipush X dX1_isDigit_1 nt_cb_48 ?_
  obtain ⟨ht, hf⟩ := nt_R_if h
  refine nt_icmp_lt X 16 dX1_isDigit_3 (by decide) (fun q1 => ?_) (fun q1 => ?_)
  · have h := ht q1
    refine nt_iconst X dX1_isDigit_16 nt_ci_0 ?_
    have h := nt_R_some h
    exact nt_zret X rfl dX1_isDigit_17 (nt_pe h hg)
  · have h := hf q1
    refine nt_iload_n X dX1_isDigit_6 rfl 0 rfl ?_
    refine nt_bipush X dX1_isDigit_7 nt_cb_57 ?_
    obtain ⟨ht, hf⟩ := nt_R_if h
    refine nt_icmp_gt X 16 dX1_isDigit_9 (by decide) (fun q2 => ?_) (fun q2 => ?_)
    · have h := ht q2
      refine nt_iconst X dX1_isDigit_16 nt_ci_0 ?_
      have h := nt_R_some h
      exact nt_zret X rfl dX1_isDigit_17 (nt_pe h hg)
    · have h := hf q2
      refine nt_iconst X dX1_isDigit_12 nt_ci_1 ?_
      refine nt_goto X 17 dX1_isDigit_13 (by decide) ?_
      have h := nt_R_some h
      exact nt_zret X rfl dX1_isDigit_17 (nt_pe h hg)
def jRd_numeral_62 (x1 : Int32) (s0 : Int32) (g : nt_T) : Option ((Int32 × nt_T) ⊕ ((Int32 × nt_T))) :=
  nt_lt (nt_st g 10 2 ((g 10 2) + (1 : Int32))) fun g6 => some (.inl (s0, g6))
set_option maxRecDepth 100000 in
set_option maxHeartbeats 4000000 in
theorem tjRd_numeral_62 {p : Program} {l : Launch} {e : Env} {s : State} {m : MethodId} {args : Array Value} {below : List Frame} {meth : Method} {c : Code} {w : nt_w} {A : Nat → Prop} (hw : nt_isD w) {Q : State → Prop} (X : nt_X cX1_numeral 2 RX1 (some .int) w A p s m args meth c) (x1 : Int32) (s0 : Int32) (g : nt_T) {Qz : (Int32 × nt_T) ⊕ ((Int32 × nt_T)) → Prop} (hI : ∀ (y1 : Int32) (gy : nt_T), Qz (.inl (y1, gy)) → nt_G p l e (nt_rm 3) s m args below meth c w A 0 0 Q 2 2 [(0, .ref (nt_a w 10)), (1, .int y1)] [] gy) (hE0 : ∀ (y1 : Int32) (gy : nt_T), Qz (.inr (y1, gy)) → nt_G p l e (nt_rm 3) s m args below meth c w A 0 0 Q 2 76 [(0, .ref (nt_a w 10)), (1, .int y1)] [] gy) (h : nt_R (jRd_numeral_62 x1 s0 g) Qz) : nt_G p l e (nt_rm 3) s m args below meth c w A 0 0 Q 2 62 [(0, .ref (nt_a w 10)), (1, .int x1)] [.int s0] g := by
  unfold jRd_numeral_62 at h
  refine nt_istore_n X [(1, .int s0), (0, .ref (nt_a w 10))] dX1_numeral_62 rfl (by decide) rfl ?_
  refine nt_aload_n X dX1_numeral_63 rfl 1 rfl ?_
  refine nt_dup X dX1_numeral_64 rfl ?_
  refine nt_get X 10 inX1 (nt_lD hw (Nat.le_of_ble_eq_true rfl)) (nt_d10 hw) rfl (j := 2) (by decide) wd_63 (v := .int (g 10 2)) rfl dX1_numeral_65 ?_
  refine nt_iconst X dX1_numeral_68 nt_ci_1 ?_
  refine nt_iadd X dX1_numeral_69 ?_
  refine nt_put X 10 inX1 (nt_lD hw (Nat.le_of_ble_eq_true rfl)) (nt_d10 hw) rfl (j := 2) (by decide) wd_63 tyX1 tyX1_ok nmX1 rfl (ty := .int) rfl rfl rfl (fun _ => Nat.le_of_ble_eq_true rfl) (fun _ => rfl) dX1_numeral_70 ?_
  obtain ⟨g6, eg6, h⟩ := nt_R_lt h
  refine nt_geq eg6 ?_
  refine nt_goto X 2 dX1_numeral_73 (by decide) ?_
  refine nt_sub [1, 0] rfl ?_
  have h := nt_R_some h
  exact hI s0 g6 h
def bRd_numeral_2 (x1 : Int32) (g : nt_T) : Option ((Int32 × nt_T) ⊕ ((Int32 × nt_T))) :=
  (if (g 10 1) ≤ (g 10 2) then
    (some (.inr (x1, g)))
  else
    (nt_gd (nt_in (g 10 2) 160) <| nt_b1 (fRd_isDigit (g 11 (Int32.toNatClampNeg (g 10 2))) g) fun r3 => (if r3 = 0 then
    (some (.inr (x1, g)))
  else
    ((if (4 : Int32) ≤ ((g 10 2) - (g 10 4)) then
    (jRd_numeral_62 x1 x1 g)
  else
    (nt_gd (nt_in (g 10 2) 160) <| jRd_numeral_62 x1 ((((10 : Int32) * x1) + (g 11 (Int32.toNatClampNeg (g 10 2)))) - (48 : Int32)) g))))))
set_option maxRecDepth 100000 in
set_option maxHeartbeats 4000000 in
theorem tbRd_numeral_2 {p : Program} {l : Launch} {e : Env} {s : State} {m : MethodId} {args : Array Value} {below : List Frame} {meth : Method} {c : Code} {w : nt_w} {A : Nat → Prop} (hw : nt_isD w) {Q : State → Prop} (X : nt_X cX1_numeral 2 RX1 (some .int) w A p s m args meth c)  {Qx : ((Int32 × nt_T)) → Prop} (hE0 : ∀ (y1 : Int32) (gy : nt_T), Qx (y1, gy) → nt_G p l e (nt_rm 3) s m args below meth c w A 0 0 Q 2 76 [(0, .ref (nt_a w 10)), (1, .int y1)] [] gy) : ∀ (n : Nat) (x1 : Int32) (g : nt_T), nt_R (nt_it (fun z => bRd_numeral_2 z.1 z.2) n (x1, g)) Qx → nt_G p l e (nt_rm 3) s m args below meth c w A 0 0 Q 2 2 [(0, .ref (nt_a w 10)), (1, .int x1)] [] g := by
  intro n
  induction n with
  | zero =>
    intro x1 g h
    exact nt_R_none h
  | succ n ih =>
    intro x1 g h
    have h : nt_R (bRd_numeral_2 x1 g) (nt_Qz (fun z => bRd_numeral_2 z.1 z.2) n Qx) := nt_R_it h
    have hI : ∀ (y1 : Int32) (gy : nt_T), nt_Qz (fun z => bRd_numeral_2 z.1 z.2) n Qx (.inl (y1, gy)) → nt_G p l e (nt_rm 3) s m args below meth c w A 0 0 Q 2 2 [(0, .ref (nt_a w 10)), (1, .int y1)] [] gy := fun y1 gy q => ih y1 gy q
    have hE0 : ∀ (y1 : Int32) (gy : nt_T), nt_Qz (fun z => bRd_numeral_2 z.1 z.2) n Qx (.inr (y1, gy)) → nt_G p l e (nt_rm 3) s m args below meth c w A 0 0 Q 2 76 [(0, .ref (nt_a w 10)), (1, .int y1)] [] gy := hE0
    generalize nt_Qz (fun z => bRd_numeral_2 z.1 z.2) n Qx = Qz at h hI hE0
    unfold bRd_numeral_2 at h
    refine nt_aload_n X dX1_numeral_2 rfl 0 rfl ?_
    refine nt_get X 10 inX1 (nt_lD hw (Nat.le_of_ble_eq_true rfl)) (nt_d10 hw) rfl (j := 2) (by decide) wd_63 (v := .int (g 10 2)) rfl dX1_numeral_3 ?_
    refine nt_aload_n X dX1_numeral_6 rfl 0 rfl ?_
    refine nt_get X 10 inX1 (nt_lD hw (Nat.le_of_ble_eq_true rfl)) (nt_d10 hw) rfl (j := 1) (by decide) wd_62 (v := .int (g 10 1)) rfl dX1_numeral_7 ?_
    obtain ⟨ht, hf⟩ := nt_R_if h
    refine nt_icmp_ge X 76 dX1_numeral_10 (by decide) (fun q1 => ?_) (fun q1 => ?_)
    · have h := ht q1
      refine nt_sub [0, 1] rfl ?_
      have h := nt_R_some h
      exact hE0 x1 g h
    · have h := hf q1
      refine nt_aload_n X dX1_numeral_13 rfl 0 rfl ?_
      refine nt_get X 10 inX1 (nt_lD hw (Nat.le_of_ble_eq_true rfl)) (nt_d10 hw) rfl (j := 0) (by decide) wd_61 (v := .ref (nt_a w 11)) rfl dX1_numeral_14 ?_
      refine nt_aload_n X dX1_numeral_17 rfl 0 rfl ?_
      refine nt_get X 10 inX1 (nt_lD hw (Nat.le_of_ble_eq_true rfl)) (nt_d10 hw) rfl (j := 2) (by decide) wd_63 (v := .int (g 10 2)) rfl dX1_numeral_18 ?_
      obtain ⟨q2, h⟩ := nt_R_gd h
      refine nt_iald X 11 0 (nt_lD hw (Nat.le_of_ble_eq_true rfl)) (nt_d11 hw) (nt_tD hw) q2 dX1_numeral_21 ?_
      obtain ⟨r3, er3, h⟩ := nt_R_b1 h
      refine nt_cSi X (As := [.int (g 11 (Int32.toNatClampNeg (g 10 2)))]) (cRd_isDigit hw er3) wd_140 wd_138 wd_139 wd_4 hd_X1_isDigit ⟨Nat.le_of_ble_eq_true rfl, Nat.le_of_ble_eq_true rfl⟩ ⟨Nat.le_refl 0, Nat.le_refl 0⟩ (Nat.le_of_ble_eq_true rfl) rfl dX1_numeral_22 ?_
      obtain ⟨ht, hf⟩ := nt_R_if h
      refine nt_if_eq X 76 dX1_numeral_25 (by decide) (fun q4 => ?_) (fun q4 => ?_)
      · have h := ht q4
        refine nt_sub [0, 1] rfl ?_
        have h := nt_R_some h
        exact hE0 x1 g h
      · have h := hf q4
        refine nt_aload_n X dX1_numeral_28 rfl 0 rfl ?_
        refine nt_get X 10 inX1 (nt_lD hw (Nat.le_of_ble_eq_true rfl)) (nt_d10 hw) rfl (j := 2) (by decide) wd_63 (v := .int (g 10 2)) rfl dX1_numeral_29 ?_
        refine nt_aload_n X dX1_numeral_32 rfl 0 rfl ?_
        refine nt_get X 10 inX1 (nt_lD hw (Nat.le_of_ble_eq_true rfl)) (nt_d10 hw) rfl (j := 4) (by decide) wd_65 (v := .int (g 10 4)) rfl dX1_numeral_33 ?_
        refine nt_isub X dX1_numeral_36 ?_
        refine nt_iconst X dX1_numeral_37 nt_ci_4 ?_
        obtain ⟨ht, hf⟩ := nt_R_if h
        refine nt_icmp_ge X 61 dX1_numeral_38 (by decide) (fun q5 => ?_) (fun q5 => ?_)
        · have h := ht q5
          refine nt_iload_n X dX1_numeral_61 rfl 1 rfl ?_
          exact tjRd_numeral_62 hw X x1 x1 g hI hE0 h
        · have h := hf q5
          refine nt_bipush X dX1_numeral_41 nt_cb_10 ?_
          refine nt_iload_n X dX1_numeral_43 rfl 1 rfl ?_
          refine nt_imul X dX1_numeral_44 ?_
          refine nt_aload_n X dX1_numeral_45 rfl 0 rfl ?_
          refine nt_get X 10 inX1 (nt_lD hw (Nat.le_of_ble_eq_true rfl)) (nt_d10 hw) rfl (j := 0) (by decide) wd_61 (v := .ref (nt_a w 11)) rfl dX1_numeral_46 ?_
          refine nt_aload_n X dX1_numeral_49 rfl 0 rfl ?_
          refine nt_get X 10 inX1 (nt_lD hw (Nat.le_of_ble_eq_true rfl)) (nt_d10 hw) rfl (j := 2) (by decide) wd_63 (v := .int (g 10 2)) rfl dX1_numeral_50 ?_
          obtain ⟨q7, h⟩ := nt_R_gd h
          refine nt_iald X 11 0 (nt_lD hw (Nat.le_of_ble_eq_true rfl)) (nt_d11 hw) (nt_tD hw) q7 dX1_numeral_53 ?_
          refine nt_iadd X dX1_numeral_54 ?_
          refine nt_bipush X dX1_numeral_55 nt_cb_48 ?_
          refine nt_isub X dX1_numeral_57 ?_
          refine nt_goto X 62 dX1_numeral_58 (by decide) ?_
          exact tjRd_numeral_62 hw X x1 ((((10 : Int32) * x1) + (g 11 (Int32.toNatClampNeg (g 10 2)))) - (48 : Int32)) g hI hE0 h
def jRd_numeral_76 (x1 : Int32) (g : nt_T) : Option (Int32 × nt_T) :=
  (if ((g 10 2) - (g 10 4)) ≤ (4 : Int32) then
    (some (((32 : Int32) + x1), g))
  else
    (some ((22 : Int32), g)))
set_option maxRecDepth 100000 in
set_option maxHeartbeats 4000000 in
theorem tjRd_numeral_76 {p : Program} {l : Launch} {e : Env} {s : State} {m : MethodId} {args : Array Value} {below : List Frame} {meth : Method} {c : Code} {w : nt_w} {A : Nat → Prop} (hw : nt_isD w) {r : Int32} {g2 : nt_T}  (X : nt_X cX1_numeral 2 RX1 (some .int) w A p s m args meth c) (x1 : Int32) (g : nt_T) (h : nt_R (jRd_numeral_76 x1 g) (fun z => z = (r, g2))) : nt_G p l e (nt_rm 3) s m args below meth c w A 0 0 (nt_Qi w A below args s r g2) 2 76 [(0, .ref (nt_a w 10)), (1, .int x1)] [] g := by
  unfold jRd_numeral_76 at h
  refine nt_aload_n X dX1_numeral_76 rfl 0 rfl ?_
  refine nt_get X 10 inX1 (nt_lD hw (Nat.le_of_ble_eq_true rfl)) (nt_d10 hw) rfl (j := 2) (by decide) wd_63 (v := .int (g 10 2)) rfl dX1_numeral_77 ?_
  refine nt_aload_n X dX1_numeral_80 rfl 0 rfl ?_
  refine nt_get X 10 inX1 (nt_lD hw (Nat.le_of_ble_eq_true rfl)) (nt_d10 hw) rfl (j := 4) (by decide) wd_65 (v := .int (g 10 4)) rfl dX1_numeral_81 ?_
  refine nt_isub X dX1_numeral_84 ?_
  refine nt_iconst X dX1_numeral_85 nt_ci_4 ?_
  obtain ⟨ht, hf⟩ := nt_R_if h
  refine nt_icmp_le X 94 dX1_numeral_86 (by decide) (fun q10 => ?_) (fun q10 => ?_)
  · have h := ht q10
    refine nt_bipush X dX1_numeral_94 nt_cb_32 ?_
    refine nt_iload_n X dX1_numeral_96 rfl 1 rfl ?_
    refine nt_iadd X dX1_numeral_97 ?_
    have h := nt_R_some h
    exact nt_iret X dX1_numeral_98 h
  · have h := hf q10
    refine nt_bipush X dX1_numeral_89 nt_cb_22 ?_
    refine nt_goto X 98 dX1_numeral_91 (by decide) ?_
    have h := nt_R_some h
    exact nt_iret X dX1_numeral_98 h
def fRd_numeral (g : nt_T) : Option (Int32 × nt_T) :=
  (nt_b1 (nt_it (fun z => bRd_numeral_2 z.1 z.2) nt_fu ((0 : Int32), g)) fun z11 => match z11 with
  | (v8, g9) => jRd_numeral_76 v8 g9)
set_option maxRecDepth 100000 in
set_option maxHeartbeats 4000000 in
theorem cRd_numeral {l : Launch} {w : nt_w} (hw : nt_isD w) {g : nt_T} {r : Int32} {g2 : nt_T} (hf : fRd_numeral g = some (r, g2)) : nt_Mi l w yX1_numeral cX1_numeral 2 (some .int) 3 [.ref (nt_a w 10)] g r g2 := by
  refine nt_Mi_of (by decide) (Nat.le_of_ble_eq_true rfl) (fun p e s m args below meth c A X => ?_)
  have X : nt_X cX1_numeral 2 RX1 (some .int) w A p s m args meth c := X
  have h : nt_R (fRd_numeral g) (fun z => z = (r, g2)) := ⟨_, hf, rfl⟩
  unfold fRd_numeral at h
  show nt_G p l e (nt_rm 3) s m args below meth c w A 0 0 (nt_Qi w A below args s r g2) 2 0 [(0, .ref (nt_a w 10))] [] g
  refine nt_iconst X dX1_numeral_0 nt_ci_0 ?_
  refine nt_istore_n X [(1, .int (0 : Int32)), (0, .ref (nt_a w 10))] dX1_numeral_1 rfl (by decide) rfl ?_
  obtain ⟨z11, hz11, h⟩ := nt_R_b1 h
  refine nt_sub [1, 0] rfl ?_
  refine tbRd_numeral_2 hw X  (Qx := fun z => z = z11) (fun v8 g9 hq => ?_) nt_fu (0 : Int32) g ⟨_, hz11, rfl⟩
  subst hq
  exact tjRd_numeral_76 hw X v8 g9 h
def jRd_step_39 (g : nt_T) : Option ((nt_T) ⊕ ((nt_T))) :=
  nt_lt (nt_st g 10 2 ((g 10 2) + (1 : Int32))) fun g4 => some (.inl g4)
set_option maxRecDepth 100000 in
set_option maxHeartbeats 4000000 in
theorem tjRd_step_39 {p : Program} {l : Launch} {e : Env} {s : State} {m : MethodId} {args : Array Value} {below : List Frame} {meth : Method} {c : Code} {w : nt_w} {A : Nat → Prop} (hw : nt_isD w) {Q : State → Prop} (X : nt_X cX1_step 2 RX1 none w A p s m args meth c) (g : nt_T) {Qz : (nt_T) ⊕ ((nt_T)) → Prop} (hI : ∀ (gy : nt_T), Qz (.inl gy) → nt_G p l e (nt_rm 11) s m args below meth c w A 0 0 Q 2 0 [(0, .ref (nt_a w 10))] [] gy) (hE0 : ∀ (gy : nt_T), Qz (.inr gy) → nt_G p l e (nt_rm 11) s m args below meth c w A 0 0 Q 2 52 [(0, .ref (nt_a w 10))] [] gy) (h : nt_R (jRd_step_39 g) Qz) : nt_G p l e (nt_rm 11) s m args below meth c w A 0 0 Q 2 39 [(0, .ref (nt_a w 10))] [] g := by
  unfold jRd_step_39 at h
  refine nt_aload_n X dX1_step_39 rfl 0 rfl ?_
  refine nt_dup X dX1_step_40 rfl ?_
  refine nt_get X 10 inX1 (nt_lD hw (Nat.le_of_ble_eq_true rfl)) (nt_d10 hw) rfl (j := 2) (by decide) wd_63 (v := .int (g 10 2)) rfl dX1_step_41 ?_
  refine nt_iconst X dX1_step_44 nt_ci_1 ?_
  refine nt_iadd X dX1_step_45 ?_
  refine nt_put X 10 inX1 (nt_lD hw (Nat.le_of_ble_eq_true rfl)) (nt_d10 hw) rfl (j := 2) (by decide) wd_63 tyX1 tyX1_ok nmX1 rfl (ty := .int) rfl rfl rfl (fun _ => Nat.le_of_ble_eq_true rfl) (fun _ => rfl) dX1_step_46 ?_
  obtain ⟨g4, eg4, h⟩ := nt_R_lt h
  refine nt_geq eg4 ?_
  refine nt_goto X 0 dX1_step_49 (by decide) ?_
  refine nt_sub [0] rfl ?_
  have h := nt_R_some h
  exact hI g4 h
def bRd_step_0 (g : nt_T) : Option ((nt_T) ⊕ ((nt_T))) :=
  (if (g 10 1) ≤ (g 10 2) then
    (some (.inr g))
  else
    (nt_gd (nt_in (g 10 2) 160) <| (if (g 11 (Int32.toNatClampNeg (g 10 2))) = (32 : Int32) then
    (jRd_step_39 g)
  else
    (nt_gd (nt_in (g 10 2) 160) <| (if (g 11 (Int32.toNatClampNeg (g 10 2))) = (10 : Int32) then
    (jRd_step_39 g)
  else
    (some (.inr g)))))))
set_option maxRecDepth 100000 in
set_option maxHeartbeats 4000000 in
theorem tbRd_step_0 {p : Program} {l : Launch} {e : Env} {s : State} {m : MethodId} {args : Array Value} {below : List Frame} {meth : Method} {c : Code} {w : nt_w} {A : Nat → Prop} (hw : nt_isD w) {Q : State → Prop} (X : nt_X cX1_step 2 RX1 none w A p s m args meth c)  {Qx : ((nt_T)) → Prop} (hE0 : ∀ (gy : nt_T), Qx gy → nt_G p l e (nt_rm 11) s m args below meth c w A 0 0 Q 2 52 [(0, .ref (nt_a w 10))] [] gy) : ∀ (n : Nat) (g : nt_T), nt_R (nt_it (fun z => bRd_step_0 z) n g) Qx → nt_G p l e (nt_rm 11) s m args below meth c w A 0 0 Q 2 0 [(0, .ref (nt_a w 10))] [] g := by
  intro n
  induction n with
  | zero =>
    intro g h
    exact nt_R_none h
  | succ n ih =>
    intro g h
    have h : nt_R (bRd_step_0 g) (nt_Qz (fun z => bRd_step_0 z) n Qx) := nt_R_it h
    have hI : ∀ (gy : nt_T), nt_Qz (fun z => bRd_step_0 z) n Qx (.inl gy) → nt_G p l e (nt_rm 11) s m args below meth c w A 0 0 Q 2 0 [(0, .ref (nt_a w 10))] [] gy := fun  gy q => ih  gy q
    have hE0 : ∀ (gy : nt_T), nt_Qz (fun z => bRd_step_0 z) n Qx (.inr gy) → nt_G p l e (nt_rm 11) s m args below meth c w A 0 0 Q 2 52 [(0, .ref (nt_a w 10))] [] gy := hE0
    generalize nt_Qz (fun z => bRd_step_0 z) n Qx = Qz at h hI hE0
    unfold bRd_step_0 at h
    refine nt_aload_n X dX1_step_0 rfl 0 rfl ?_
    refine nt_get X 10 inX1 (nt_lD hw (Nat.le_of_ble_eq_true rfl)) (nt_d10 hw) rfl (j := 2) (by decide) wd_63 (v := .int (g 10 2)) rfl dX1_step_1 ?_
    refine nt_aload_n X dX1_step_4 rfl 0 rfl ?_
    refine nt_get X 10 inX1 (nt_lD hw (Nat.le_of_ble_eq_true rfl)) (nt_d10 hw) rfl (j := 1) (by decide) wd_62 (v := .int (g 10 1)) rfl dX1_step_5 ?_
    obtain ⟨ht, hf⟩ := nt_R_if h
    refine nt_icmp_ge X 52 dX1_step_8 (by decide) (fun q1 => ?_) (fun q1 => ?_)
    · have h := ht q1
      refine nt_sub [0] rfl ?_
      have h := nt_R_some h
      exact hE0 g h
    · have h := hf q1
      refine nt_aload_n X dX1_step_11 rfl 0 rfl ?_
      refine nt_get X 10 inX1 (nt_lD hw (Nat.le_of_ble_eq_true rfl)) (nt_d10 hw) rfl (j := 0) (by decide) wd_61 (v := .ref (nt_a w 11)) rfl dX1_step_12 ?_
      refine nt_aload_n X dX1_step_15 rfl 0 rfl ?_
      refine nt_get X 10 inX1 (nt_lD hw (Nat.le_of_ble_eq_true rfl)) (nt_d10 hw) rfl (j := 2) (by decide) wd_63 (v := .int (g 10 2)) rfl dX1_step_16 ?_
      obtain ⟨q2, h⟩ := nt_R_gd h
      refine nt_iald X 11 0 (nt_lD hw (Nat.le_of_ble_eq_true rfl)) (nt_d11 hw) (nt_tD hw) q2 dX1_step_19 ?_
      refine nt_bipush X dX1_step_20 nt_cb_32 ?_
      obtain ⟨ht, hf⟩ := nt_R_if h
      refine nt_icmp_eq X 39 dX1_step_22 (by decide) (fun q3 => ?_) (fun q3 => ?_)
      · have h := ht q3
        exact tjRd_step_39 hw X g hI hE0 h
      · have h := hf q3
        refine nt_aload_n X dX1_step_25 rfl 0 rfl ?_
        refine nt_get X 10 inX1 (nt_lD hw (Nat.le_of_ble_eq_true rfl)) (nt_d10 hw) rfl (j := 0) (by decide) wd_61 (v := .ref (nt_a w 11)) rfl dX1_step_26 ?_
        refine nt_aload_n X dX1_step_29 rfl 0 rfl ?_
        refine nt_get X 10 inX1 (nt_lD hw (Nat.le_of_ble_eq_true rfl)) (nt_d10 hw) rfl (j := 2) (by decide) wd_63 (v := .int (g 10 2)) rfl dX1_step_30 ?_
        obtain ⟨q5, h⟩ := nt_R_gd h
        refine nt_iald X 11 0 (nt_lD hw (Nat.le_of_ble_eq_true rfl)) (nt_d11 hw) (nt_tD hw) q5 dX1_step_33 ?_
        refine nt_bipush X dX1_step_34 nt_cb_10 ?_
        obtain ⟨ht, hf⟩ := nt_R_if h
        refine nt_icmp_ne X 52 dX1_step_36 (by decide) (fun q6 => ?_) (fun q6 => ?_)
        · have h := hf q6
          refine nt_sub [0] rfl ?_
          have h := nt_R_some h
          exact hE0 g h
        · have h := ht q6
          exact tjRd_step_39 hw X g hI hE0 h
def jRd_step_162 (s0 : Int32) (g : nt_T) : Option (nt_T) :=
  nt_lt (nt_st g 10 3 s0) fun g20 => nt_lt (nt_st g20 10 2 ((g20 10 2) + (1 : Int32))) fun g21 => some g21
set_option maxRecDepth 100000 in
set_option maxHeartbeats 4000000 in
theorem tjRd_step_162 {p : Program} {l : Launch} {e : Env} {s : State} {m : MethodId} {args : Array Value} {below : List Frame} {meth : Method} {c : Code} {w : nt_w} {A : Nat → Prop} (hw : nt_isD w) {g2 : nt_T}  (X : nt_X cX1_step 2 RX1 none w A p s m args meth c) (s0 : Int32) (g : nt_T) (h : nt_R (jRd_step_162 s0 g) (fun z => z = g2)) : nt_G p l e (nt_rm 11) s m args below meth c w A 0 0 (nt_Qv w A below args s g2) 2 162 [(0, .ref (nt_a w 10))] [.int s0, .ref (nt_a w 10)] g := by
  unfold jRd_step_162 at h
  refine nt_put X 10 inX1 (nt_lD hw (Nat.le_of_ble_eq_true rfl)) (nt_d10 hw) rfl (j := 3) (by decide) wd_64 tyX1 tyX1_ok nmX1 rfl (ty := .int) rfl rfl rfl (fun _ => Nat.le_of_ble_eq_true rfl) (fun _ => rfl) dX1_step_162 ?_
  obtain ⟨g20, eg20, h⟩ := nt_R_lt h
  refine nt_geq eg20 ?_
  refine nt_aload_n X dX1_step_165 rfl 0 rfl ?_
  refine nt_dup X dX1_step_166 rfl ?_
  refine nt_get X 10 inX1 (nt_lD hw (Nat.le_of_ble_eq_true rfl)) (nt_d10 hw) rfl (j := 2) (by decide) wd_63 (v := .int (g20 10 2)) rfl dX1_step_167 ?_
  refine nt_iconst X dX1_step_170 nt_ci_1 ?_
  refine nt_iadd X dX1_step_171 ?_
  refine nt_put X 10 inX1 (nt_lD hw (Nat.le_of_ble_eq_true rfl)) (nt_d10 hw) rfl (j := 2) (by decide) wd_63 tyX1 tyX1_ok nmX1 rfl (ty := .int) rfl rfl rfl (fun _ => Nat.le_of_ble_eq_true rfl) (fun _ => rfl) dX1_step_172 ?_
  obtain ⟨g21, eg21, h⟩ := nt_R_lt h
  refine nt_geq eg21 ?_
  have h := nt_R_some h
  exact nt_vret X dX1_step_175 h
def jRd_step_52 (g : nt_T) : Option (nt_T) :=
  nt_lt (nt_st g 10 4 (g 10 2)) fun g8 => (if (g8 10 2) < (g8 10 1) then
    (nt_gd (nt_in (g8 10 2) 160) <| nt_b1 (fRd_isLetter (g8 11 (Int32.toNatClampNeg (g8 10 2))) g8) fun r11 => (if r11 = 0 then
    (nt_gd (nt_in (g8 10 2) 160) <| nt_b1 (fRd_isDigit (g8 11 (Int32.toNatClampNeg (g8 10 2))) g8) fun r14 => (if r14 = 0 then
    (nt_gd (nt_in (g8 10 2) 160) <| nt_b2 (fJs_indexOf_0f7a4 2 (nt_u16 (g8 11 (Int32.toNatClampNeg (g8 10 2)))) g8) fun r17 g18 => (if 0 ≤ r17 then
    (jRd_step_162 ((12 : Int32) + r17) g18)
  else
    (jRd_step_162 (22 : Int32) g18)))
  else
    (nt_b2 (fRd_numeral g8) fun r22 g23 => nt_lt (nt_st g23 10 3 r22) fun g24 => some g24)))
  else
    (nt_b2 (fRd_word g8) fun r25 g26 => nt_lt (nt_st g26 10 3 r25) fun g27 => some g27)))
  else
    (nt_lt (nt_st g8 10 3 (21 : Int32)) fun g28 => some g28))
set_option maxRecDepth 100000 in
set_option maxHeartbeats 4000000 in
theorem tjRd_step_52 {p : Program} {l : Launch} {e : Env} {s : State} {m : MethodId} {args : Array Value} {below : List Frame} {meth : Method} {c : Code} {w : nt_w} {A : Nat → Prop} (hw : nt_isD w) {g2 : nt_T}  (X : nt_X cX1_step 2 RX1 none w A p s m args meth c) (g : nt_T) (h : nt_R (jRd_step_52 g) (fun z => z = g2)) : nt_G p l e (nt_rm 11) s m args below meth c w A 0 0 (nt_Qv w A below args s g2) 2 52 [(0, .ref (nt_a w 10))] [] g := by
  unfold jRd_step_52 at h
  refine nt_aload_n X dX1_step_52 rfl 0 rfl ?_
  refine nt_aload_n X dX1_step_53 rfl 0 rfl ?_
  refine nt_get X 10 inX1 (nt_lD hw (Nat.le_of_ble_eq_true rfl)) (nt_d10 hw) rfl (j := 2) (by decide) wd_63 (v := .int (g 10 2)) rfl dX1_step_54 ?_
  refine nt_put X 10 inX1 (nt_lD hw (Nat.le_of_ble_eq_true rfl)) (nt_d10 hw) rfl (j := 4) (by decide) wd_65 tyX1 tyX1_ok nmX1 rfl (ty := .int) rfl rfl rfl (fun _ => Nat.le_of_ble_eq_true rfl) (fun _ => rfl) dX1_step_57 ?_
  obtain ⟨g8, eg8, h⟩ := nt_R_lt h
  refine nt_geq eg8 ?_
  refine nt_aload_n X dX1_step_60 rfl 0 rfl ?_
  refine nt_get X 10 inX1 (nt_lD hw (Nat.le_of_ble_eq_true rfl)) (nt_d10 hw) rfl (j := 2) (by decide) wd_63 (v := .int (g8 10 2)) rfl dX1_step_61 ?_
  refine nt_aload_n X dX1_step_64 rfl 0 rfl ?_
  refine nt_get X 10 inX1 (nt_lD hw (Nat.le_of_ble_eq_true rfl)) (nt_d10 hw) rfl (j := 1) (by decide) wd_62 (v := .int (g8 10 1)) rfl dX1_step_65 ?_
  obtain ⟨ht, hf⟩ := nt_R_if h
  refine nt_icmp_lt X 80 dX1_step_68 (by decide) (fun q9 => ?_) (fun q9 => ?_)
  · have h := ht q9
    refine nt_aload_n X dX1_step_80 rfl 0 rfl ?_
    refine nt_get X 10 inX1 (nt_lD hw (Nat.le_of_ble_eq_true rfl)) (nt_d10 hw) rfl (j := 0) (by decide) wd_61 (v := .ref (nt_a w 11)) rfl dX1_step_81 ?_
    refine nt_aload_n X dX1_step_84 rfl 0 rfl ?_
    refine nt_get X 10 inX1 (nt_lD hw (Nat.le_of_ble_eq_true rfl)) (nt_d10 hw) rfl (j := 2) (by decide) wd_63 (v := .int (g8 10 2)) rfl dX1_step_85 ?_
    obtain ⟨q10, h⟩ := nt_R_gd h
    refine nt_iald X 11 0 (nt_lD hw (Nat.le_of_ble_eq_true rfl)) (nt_d11 hw) (nt_tD hw) q10 dX1_step_88 ?_
    obtain ⟨r11, er11, h⟩ := nt_R_b1 h
    refine nt_cSi X (As := [.int (g8 11 (Int32.toNatClampNeg (g8 10 2)))]) (cRd_isLetter hw er11) wd_134 wd_132 wd_133 wd_4 hd_X1_isLetter ⟨Nat.le_of_ble_eq_true rfl, Nat.le_of_ble_eq_true rfl⟩ ⟨Nat.le_refl 0, Nat.le_refl 0⟩ (Nat.le_of_ble_eq_true rfl) rfl dX1_step_89 ?_
    obtain ⟨ht, hf⟩ := nt_R_if h
    refine nt_if_eq X 106 dX1_step_92 (by decide) (fun q12 => ?_) (fun q12 => ?_)
    · have h := ht q12
      refine nt_aload_n X dX1_step_106 rfl 0 rfl ?_
      refine nt_get X 10 inX1 (nt_lD hw (Nat.le_of_ble_eq_true rfl)) (nt_d10 hw) rfl (j := 0) (by decide) wd_61 (v := .ref (nt_a w 11)) rfl dX1_step_107 ?_
      refine nt_aload_n X dX1_step_110 rfl 0 rfl ?_
      refine nt_get X 10 inX1 (nt_lD hw (Nat.le_of_ble_eq_true rfl)) (nt_d10 hw) rfl (j := 2) (by decide) wd_63 (v := .int (g8 10 2)) rfl dX1_step_111 ?_
      obtain ⟨q13, h⟩ := nt_R_gd h
      refine nt_iald X 11 0 (nt_lD hw (Nat.le_of_ble_eq_true rfl)) (nt_d11 hw) (nt_tD hw) q13 dX1_step_114 ?_
      obtain ⟨r14, er14, h⟩ := nt_R_b1 h
      refine nt_cSi X (As := [.int (g8 11 (Int32.toNatClampNeg (g8 10 2)))]) (cRd_isDigit hw er14) wd_140 wd_138 wd_139 wd_4 hd_X1_isDigit ⟨Nat.le_of_ble_eq_true rfl, Nat.le_of_ble_eq_true rfl⟩ ⟨Nat.le_refl 0, Nat.le_refl 0⟩ (Nat.le_of_ble_eq_true rfl) rfl dX1_step_115 ?_
      obtain ⟨ht, hf⟩ := nt_R_if h
      refine nt_if_eq X 132 dX1_step_118 (by decide) (fun q15 => ?_) (fun q15 => ?_)
      · have h := ht q15
        refine nt_ldcS2 X rfl dX1_step_132 ?_
        refine nt_aload_n X dX1_step_134 rfl 0 rfl ?_
        refine nt_get X 10 inX1 (nt_lD hw (Nat.le_of_ble_eq_true rfl)) (nt_d10 hw) rfl (j := 0) (by decide) wd_61 (v := .ref (nt_a w 11)) rfl dX1_step_135 ?_
        refine nt_aload_n X dX1_step_138 rfl 0 rfl ?_
        refine nt_get X 10 inX1 (nt_lD hw (Nat.le_of_ble_eq_true rfl)) (nt_d10 hw) rfl (j := 2) (by decide) wd_63 (v := .int (g8 10 2)) rfl dX1_step_139 ?_
        obtain ⟨q16, h⟩ := nt_R_gd h
        refine nt_iald X 11 0 (nt_lD hw (Nat.le_of_ble_eq_true rfl)) (nt_d11 hw) (nt_tD hw) q16 dX1_step_142 ?_
        refine nt_i2c X (v := nt_u16 (g8 11 (Int32.toNatClampNeg (g8 10 2)))) dX1_step_143 rfl ?_
        obtain ⟨r17, g18, er17, h⟩ := nt_R_b2 h
        refine nt_cKi X (As := [.int (nt_u16 (g8 11 (Int32.toNatClampNeg (g8 10 2))))]) (i := 2) (by decide) (cJs_indexOf_0f7a4 hw (by decide) er17) wd_147 wd_144 wd_145 wd_146 wd_5 rfl hd_J0_indexOf_0f7a4 ⟨Nat.le_of_ble_eq_true rfl, Nat.le_of_ble_eq_true rfl⟩ ⟨Nat.le_refl 0, Nat.le_refl 0⟩ (Nat.le_of_ble_eq_true rfl) rfl dX1_step_144 ?_
        refine nt_istore_n X [(1, .int r17), (0, .ref (nt_a w 10))] dX1_step_147 rfl (by decide) rfl ?_
        refine nt_aload_n X dX1_step_148 rfl 1 rfl ?_
        refine nt_iload_n X dX1_step_149 rfl 0 rfl ?_
        obtain ⟨ht, hf⟩ := nt_R_if h
        refine nt_if_ge X 158 dX1_step_150 (by decide) (fun q19 => ?_) (fun q19 => ?_)
        · have h := ht q19
          refine nt_bipush X dX1_step_158 nt_cb_12 ?_
          refine nt_iload_n X dX1_step_160 rfl 0 rfl ?_
          refine nt_iadd X dX1_step_161 ?_
          refine nt_sub [1] rfl ?_
          exact tjRd_step_162 hw X ((12 : Int32) + r17) g18 h
        · have h := hf q19
          refine nt_bipush X dX1_step_153 nt_cb_22 ?_
          refine nt_goto X 162 dX1_step_155 (by decide) ?_
          refine nt_sub [1] rfl ?_
          exact tjRd_step_162 hw X (22 : Int32) g18 h
      · have h := hf q15
        refine nt_aload_n X dX1_step_121 rfl 0 rfl ?_
        refine nt_aload_n X dX1_step_122 rfl 0 rfl ?_
        obtain ⟨r22, g23, er22, h⟩ := nt_R_b2 h
        refine nt_cVi X (As := []) 10 (nt_lD hw (Nat.le_of_ble_eq_true rfl)) (nt_d10 hw) rfl (cRd_numeral hw er22) wd_143 wd_141 wd_142 wd_1014 wd_4 rfl hd_X1_numeral ⟨Nat.le_of_ble_eq_true rfl, Nat.le_of_ble_eq_true rfl⟩ ⟨Nat.le_refl 0, Nat.le_refl 0⟩ (Nat.le_of_ble_eq_true rfl) rfl dX1_step_123 ?_
        refine nt_put X 10 inX1 (nt_lD hw (Nat.le_of_ble_eq_true rfl)) (nt_d10 hw) rfl (j := 3) (by decide) wd_64 tyX1 tyX1_ok nmX1 rfl (ty := .int) rfl rfl rfl (fun _ => Nat.le_of_ble_eq_true rfl) (fun _ => rfl) dX1_step_126 ?_
        obtain ⟨g24, eg24, h⟩ := nt_R_lt h
        refine nt_geq eg24 ?_
        refine nt_goto X 175 dX1_step_129 (by decide) ?_
        have h := nt_R_some h
        exact nt_vret X dX1_step_175 h
    · have h := hf q12
      refine nt_aload_n X dX1_step_95 rfl 0 rfl ?_
      refine nt_aload_n X dX1_step_96 rfl 0 rfl ?_
      obtain ⟨r25, g26, er25, h⟩ := nt_R_b2 h
      refine nt_cVi X (As := []) 10 (nt_lD hw (Nat.le_of_ble_eq_true rfl)) (nt_d10 hw) rfl (cRd_word hw er25) wd_137 wd_135 wd_136 wd_1013 wd_4 rfl hd_X1_word ⟨Nat.le_of_ble_eq_true rfl, Nat.le_of_ble_eq_true rfl⟩ ⟨Nat.le_refl 0, Nat.le_refl 0⟩ (Nat.le_of_ble_eq_true rfl) rfl dX1_step_97 ?_
      refine nt_put X 10 inX1 (nt_lD hw (Nat.le_of_ble_eq_true rfl)) (nt_d10 hw) rfl (j := 3) (by decide) wd_64 tyX1 tyX1_ok nmX1 rfl (ty := .int) rfl rfl rfl (fun _ => Nat.le_of_ble_eq_true rfl) (fun _ => rfl) dX1_step_100 ?_
      obtain ⟨g27, eg27, h⟩ := nt_R_lt h
      refine nt_geq eg27 ?_
      refine nt_goto X 175 dX1_step_103 (by decide) ?_
      have h := nt_R_some h
      exact nt_vret X dX1_step_175 h
  · have h := hf q9
    refine nt_aload_n X dX1_step_71 rfl 0 rfl ?_
    refine nt_bipush X dX1_step_72 nt_cb_21 ?_
    refine nt_put X 10 inX1 (nt_lD hw (Nat.le_of_ble_eq_true rfl)) (nt_d10 hw) rfl (j := 3) (by decide) wd_64 tyX1 tyX1_ok nmX1 rfl (ty := .int) rfl rfl rfl (fun _ => Nat.le_of_ble_eq_true rfl) (fun _ => rfl) dX1_step_74 ?_
    obtain ⟨g28, eg28, h⟩ := nt_R_lt h
    refine nt_geq eg28 ?_
    refine nt_goto X 175 dX1_step_77 (by decide) ?_
    have h := nt_R_some h
    exact nt_vret X dX1_step_175 h
def fRd_step (g : nt_T) : Option (nt_T) :=
  (nt_b1 (nt_it (fun z => bRd_step_0 z) nt_fu g) fun g7 => jRd_step_52 g7)
set_option maxRecDepth 100000 in
set_option maxHeartbeats 4000000 in
theorem cRd_step {l : Launch} {w : nt_w} (hw : nt_isD w) {g : nt_T} {g2 : nt_T} (hf : fRd_step g = some g2) : nt_Mv l w yX1_step cX1_step 2 none 11 [.ref (nt_a w 10)] g g2 := by
  refine nt_Mv_of (by decide) (Nat.le_of_ble_eq_true rfl) (fun p e s m args below meth c A X => ?_)
  have X : nt_X cX1_step 2 RX1 none w A p s m args meth c := X
  have h : nt_R (fRd_step g) (fun z => z = g2) := ⟨_, hf, rfl⟩
  unfold fRd_step at h
  show nt_G p l e (nt_rm 11) s m args below meth c w A 0 0 (nt_Qv w A below args s g2) 2 0 [(0, .ref (nt_a w 10))] [] g
  obtain ⟨z29, hz29, h⟩ := nt_R_b1 h
  refine tbRd_step_0 hw X  (Qx := fun z => z = z29) (fun g7 hq => ?_) nt_fu g ⟨_, hz29, rfl⟩
  subst hq
  exact tjRd_step_52 hw X g7 h
def jRd_readsPlain_20 (g : nt_T) : Option (Int32 × nt_T) :=
  nt_b1 (fRd_write (g 10 3) g) fun g2 => nt_b1 (fRd_step g2) fun g3 => some ((1 : Int32), g3)
set_option maxRecDepth 100000 in
set_option maxHeartbeats 4000000 in
theorem tjRd_readsPlain_20 {p : Program} {l : Launch} {e : Env} {s : State} {m : MethodId} {args : Array Value} {below : List Frame} {meth : Method} {c : Code} {w : nt_w} {A : Nat → Prop} (hw : nt_isD w) {r : Int32} {g2 : nt_T}  (X : nt_X cX1_readsPlain 1 RX1 (some .boolean) w A p s m args meth c) (g : nt_T) (h : nt_R (jRd_readsPlain_20 g) (fun z => z = (r, g2))) : nt_G p l e (nt_rm 13) s m args below meth c w A 0 0 (nt_Qi w A below args s r g2) 1 20 [(0, .ref (nt_a w 10))] [] g := by
  unfold jRd_readsPlain_20 at h
  refine nt_aload_n X dX1_readsPlain_20 rfl 0 rfl ?_
  refine nt_aload_n X dX1_readsPlain_21 rfl 0 rfl ?_
  refine nt_get X 10 inX1 (nt_lD hw (Nat.le_of_ble_eq_true rfl)) (nt_d10 hw) rfl (j := 3) (by decide) wd_64 (v := .int (g 10 3)) rfl dX1_readsPlain_22 ?_
  obtain ⟨g2, eg2, h⟩ := nt_R_b1 h
  refine nt_cVv X (As := [.int (g 10 3)]) 10 (nt_lD hw (Nat.le_of_ble_eq_true rfl)) (nt_d10 hw) rfl (cRd_write hw eg2) wd_214 wd_212 wd_213 wd_1018 wd_4 rfl hd_X1_write ⟨Nat.le_of_ble_eq_true rfl, Nat.le_of_ble_eq_true rfl⟩ ⟨Nat.le_refl 0, Nat.le_refl 0⟩ (Nat.le_of_ble_eq_true rfl) rfl dX1_readsPlain_25 ?_
  refine nt_aload_n X dX1_readsPlain_28 rfl 0 rfl ?_
  obtain ⟨g3, eg3, h⟩ := nt_R_b1 h
  refine nt_cVv X (As := []) 10 (nt_lD hw (Nat.le_of_ble_eq_true rfl)) (nt_d10 hw) rfl (cRd_step hw eg3) wd_131 wd_129 wd_130 wd_1012 wd_4 rfl hd_X1_step ⟨Nat.le_of_ble_eq_true rfl, Nat.le_of_ble_eq_true rfl⟩ ⟨Nat.le_refl 0, Nat.le_refl 0⟩ (Nat.le_of_ble_eq_true rfl) rfl dX1_readsPlain_29 ?_
  refine nt_iconst X dX1_readsPlain_32 nt_ci_1 ?_
  have h := nt_R_some h
  exact nt_zret X rfl dX1_readsPlain_33 h
def fRd_readsPlain (g : nt_T) : Option (Int32 × nt_T) :=
  (if (g 10 3) < (6 : Int32) then
    (jRd_readsPlain_20 g)
  else
    ((if (32 : Int32) ≤ (g 10 3) then
    (jRd_readsPlain_20 g)
  else
    (some ((0 : Int32), g)))))
set_option maxRecDepth 100000 in
set_option maxHeartbeats 4000000 in
theorem cRd_readsPlain {l : Launch} {w : nt_w} (hw : nt_isD w) {g : nt_T} {r : Int32} {g2 : nt_T} (hf : fRd_readsPlain g = some (r, g2)) : nt_Mi l w yX1_readsPlain cX1_readsPlain 1 (some .boolean) 13 [.ref (nt_a w 10)] g r g2 := by
  refine nt_Mi_of (by decide) (Nat.le_of_ble_eq_true rfl) (fun p e s m args below meth c A X => ?_)
  have X : nt_X cX1_readsPlain 1 RX1 (some .boolean) w A p s m args meth c := X
  have h : nt_R (fRd_readsPlain g) (fun z => z = (r, g2)) := ⟨_, hf, rfl⟩
  unfold fRd_readsPlain at h
  show nt_G p l e (nt_rm 13) s m args below meth c w A 0 0 (nt_Qi w A below args s r g2) 1 0 [(0, .ref (nt_a w 10))] [] g
  refine nt_aload_n X dX1_readsPlain_0 rfl 0 rfl ?_
  refine nt_get X 10 inX1 (nt_lD hw (Nat.le_of_ble_eq_true rfl)) (nt_d10 hw) rfl (j := 3) (by decide) wd_64 (v := .int (g 10 3)) rfl dX1_readsPlain_1 ?_
  refine nt_bipush X dX1_readsPlain_4 nt_cb_6 ?_
  obtain ⟨ht, hf⟩ := nt_R_if h
  refine nt_icmp_lt X 20 dX1_readsPlain_6 (by decide) (fun q1 => ?_) (fun q1 => ?_)
  · have h := ht q1
    exact tjRd_readsPlain_20 hw X g h
  · have h := hf q1
    refine nt_aload_n X dX1_readsPlain_9 rfl 0 rfl ?_
    refine nt_get X 10 inX1 (nt_lD hw (Nat.le_of_ble_eq_true rfl)) (nt_d10 hw) rfl (j := 3) (by decide) wd_64 (v := .int (g 10 3)) rfl dX1_readsPlain_10 ?_
    refine nt_bipush X dX1_readsPlain_13 nt_cb_32 ?_
    obtain ⟨ht, hf⟩ := nt_R_if h
    refine nt_icmp_ge X 20 dX1_readsPlain_15 (by decide) (fun q4 => ?_) (fun q4 => ?_)
    · have h := ht q4
      exact tjRd_readsPlain_20 hw X g h
    · have h := hf q4
      refine nt_iconst X dX1_readsPlain_18 nt_ci_0 ?_
      have h := nt_R_some h
      exact nt_zret X rfl dX1_readsPlain_19 h
def fRd_takes (x1 : Int32) (g : nt_T) : Option (Int32 × nt_T) :=
  (if (g 10 3) = x1 then
    (nt_b1 (fRd_step g) fun g2 => some ((1 : Int32), g2))
  else
    (some ((0 : Int32), g)))
set_option maxRecDepth 100000 in
set_option maxHeartbeats 4000000 in
theorem cRd_takes {l : Launch} {w : nt_w} (hw : nt_isD w) {x1 : Int32} {g : nt_T} {r : Int32} {g2 : nt_T} (hf : fRd_takes x1 g = some (r, g2)) : nt_Mi l w yX1_takes cX1_takes 2 (some .boolean) 13 [.ref (nt_a w 10), .int x1] g r g2 := by
  refine nt_Mi_of (by decide) (Nat.le_of_ble_eq_true rfl) (fun p e s m args below meth c A X => ?_)
  have X : nt_X cX1_takes 2 RX1 (some .boolean) w A p s m args meth c := X
  have h : nt_R (fRd_takes x1 g) (fun z => z = (r, g2)) := ⟨_, hf, rfl⟩
  unfold fRd_takes at h
  show nt_G p l e (nt_rm 13) s m args below meth c w A 0 0 (nt_Qi w A below args s r g2) 2 0 [(0, .ref (nt_a w 10)), (1, .int x1)] [] g
  refine nt_aload_n X dX1_takes_0 rfl 0 rfl ?_
  refine nt_get X 10 inX1 (nt_lD hw (Nat.le_of_ble_eq_true rfl)) (nt_d10 hw) rfl (j := 3) (by decide) wd_64 (v := .int (g 10 3)) rfl dX1_takes_1 ?_
  refine nt_iload_n X dX1_takes_4 rfl 1 rfl ?_
  obtain ⟨ht, hf⟩ := nt_R_if h
  refine nt_icmp_eq X 10 dX1_takes_5 (by decide) (fun q1 => ?_) (fun q1 => ?_)
  · have h := ht q1
    refine nt_aload_n X dX1_takes_10 rfl 0 rfl ?_
    obtain ⟨g2, eg2, h⟩ := nt_R_b1 h
    refine nt_cVv X (As := []) 10 (nt_lD hw (Nat.le_of_ble_eq_true rfl)) (nt_d10 hw) rfl (cRd_step hw eg2) wd_131 wd_129 wd_130 wd_1012 wd_4 rfl hd_X1_step ⟨Nat.le_of_ble_eq_true rfl, Nat.le_of_ble_eq_true rfl⟩ ⟨Nat.le_refl 0, Nat.le_refl 0⟩ (Nat.le_of_ble_eq_true rfl) rfl dX1_takes_11 ?_
    refine nt_iconst X dX1_takes_14 nt_ci_1 ?_
    have h := nt_R_some h
    exact nt_zret X rfl dX1_takes_15 h
  · have h := hf q1
    refine nt_iconst X dX1_takes_8 nt_ci_0 ?_
    have h := nt_R_some h
    exact nt_zret X rfl dX1_takes_9 h
