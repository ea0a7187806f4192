def fNt_story (x1 : Int32) (x2 : Int32) (x3 : Int32) (g : nt_T) : Option (Int32 × nt_T) :=
  nt_b1 (fNt_isBelow x1 (6 : Int32) g) fun r1 => (if r1 = 0 then
    (some ((-2 : Int32), g))
  else
    (nt_b1 (fNt_isBelow x2 (10 : Int32) g) fun r3 => (if r3 = 0 then
    (some ((-2 : Int32), g))
  else
    (nt_b1 (fNt_isBelow x3 (10 : Int32) g) fun r5 => (if r5 = 0 then
    (some ((-2 : Int32), g))
  else
    (nt_b2 (fSh_add x1 x2 x3 g) fun r7 g8 => some (r7, g8)))))))
set_option maxRecDepth 100000 in
set_option maxHeartbeats 4000000 in
theorem cNt_story {l : Launch} {w : nt_w} (hw : nt_isX w) {x1 : Int32} {x2 : Int32} {x3 : Int32} {g : nt_T} {r : Int32} {g2 : nt_T} (hf : fNt_story x1 x2 x3 g = some (r, g2)) : nt_Mi l w yX8_story cX8_story 4 (some .int) 3 [.ref (nt_a w 0), .int x1, .int x2, .int x3] g r g2 := by
  refine nt_Mi_of (by decide) (Nat.le_of_ble_eq_true rfl) (fun p e s m args below meth c A X => ?_)
  have X : nt_X cX8_story 4 RX8 (some .int) w A p s m args meth c := X
  have h : nt_R (fNt_story x1 x2 x3 g) (fun z => z = (r, g2)) := ⟨_, hf, rfl⟩
  unfold fNt_story at h
  show nt_G p l e (nt_rm 3) s m args below meth c w A 0 0 (nt_Qi w A below args s r g2) 4 0 [(0, .ref (nt_a w 0)), (1, .int x1), (2, .int x2), (3, .int x3)] [] g
  refine nt_iload_n X dX8_story_0 rfl 1 rfl ?_
  refine nt_bipush X dX8_story_1 nt_cb_6 ?_
  obtain ⟨r1, er1, h⟩ := nt_R_b1 h
  refine nt_cSi X (As := [.int x1, .int (6 : Int32)]) (cNt_isBelow hw er1) wd_336 wd_334 wd_335 wd_1 hd_X8_isBelow ⟨Nat.le_of_ble_eq_true rfl, Nat.le_of_ble_eq_true rfl⟩ ⟨Nat.le_refl 0, Nat.le_refl 0⟩ (Nat.le_of_ble_eq_true rfl) rfl dX8_story_3 ?_
  obtain ⟨ht, hf⟩ := nt_R_if h
  refine nt_if_eq X 27 dX8_story_6 (by decide) (fun q2 => ?_) (fun q2 => ?_)
  · have h := ht q2
    refine nt_bipush X dX8_story_27 nt_cb_m2 ?_
    have h := nt_R_some h
    exact nt_iret X dX8_story_29 h
  · have h := hf q2
    refine nt_iload_n X dX8_story_9 rfl 2 rfl ?_
    refine nt_bipush X dX8_story_10 nt_cb_10 ?_
    obtain ⟨r3, er3, h⟩ := nt_R_b1 h
    refine nt_cSi X (As := [.int x2, .int (10 : Int32)]) (cNt_isBelow hw er3) wd_336 wd_334 wd_335 wd_1 hd_X8_isBelow ⟨Nat.le_of_ble_eq_true rfl, Nat.le_of_ble_eq_true rfl⟩ ⟨Nat.le_refl 0, Nat.le_refl 0⟩ (Nat.le_of_ble_eq_true rfl) rfl dX8_story_12 ?_
    obtain ⟨ht, hf⟩ := nt_R_if h
    refine nt_if_eq X 27 dX8_story_15 (by decide) (fun q4 => ?_) (fun q4 => ?_)
    · have h := ht q4
      refine nt_bipush X dX8_story_27 nt_cb_m2 ?_
      have h := nt_R_some h
      exact nt_iret X dX8_story_29 h
    · have h := hf q4
      refine nt_iload_n X dX8_story_18 rfl 3 rfl ?_
      refine nt_bipush X dX8_story_19 nt_cb_10 ?_
      obtain ⟨r5, er5, h⟩ := nt_R_b1 h
      refine nt_cSi X (As := [.int x3, .int (10 : Int32)]) (cNt_isBelow hw er5) wd_336 wd_334 wd_335 wd_1 hd_X8_isBelow ⟨Nat.le_of_ble_eq_true rfl, Nat.le_of_ble_eq_true rfl⟩ ⟨Nat.le_refl 0, Nat.le_refl 0⟩ (Nat.le_of_ble_eq_true rfl) rfl dX8_story_21 ?_
      obtain ⟨ht, hf⟩ := nt_R_if h
      refine nt_if_ne X 30 dX8_story_24 (by decide) (fun q6 => ?_) (fun q6 => ?_)
      · have h := hf q6
        refine nt_aload_n X dX8_story_30 rfl 0 rfl ?_
        refine nt_get X 0 inX8 (nt_lX hw (Nat.le_of_ble_eq_true rfl)) (nt_e0 hw) rfl (j := 0) (by decide) wd_312 (v := .ref (nt_a w 1)) rfl dX8_story_31 ?_
        refine nt_iload_n X dX8_story_34 rfl 1 rfl ?_
        refine nt_iload_n X dX8_story_35 rfl 2 rfl ?_
        refine nt_iload_n X dX8_story_36 rfl 3 rfl ?_
        obtain ⟨r7, g8, er7, h⟩ := nt_R_b2 h
        refine nt_cVNi X (As := [.int x1, .int x2, .int x3]) 1 (nt_lX hw (Nat.le_of_ble_eq_true rfl)) (nt_e1 hw) rfl (cSh_add hw er7) wd_338 nt_nm12 wd_337 wd_1024 wd_2 hd_X5_add ⟨Nat.le_of_ble_eq_true rfl, Nat.le_of_ble_eq_true rfl⟩ ⟨Nat.le_refl 0, Nat.le_refl 0⟩ (Nat.le_of_ble_eq_true rfl) rfl dX8_story_37 ?_
        have h := nt_R_some h
        exact nt_iret X dX8_story_40 h
      · have h := ht q6
        refine nt_bipush X dX8_story_27 nt_cb_m2 ?_
        have h := nt_R_some h
        exact nt_iret X dX8_story_29 h
def fNt_twin (x1 : Int32) (x2 : Int32) (g : nt_T) : Option (Int32 × nt_T) :=
  nt_b1 (fSh_has x1 g) fun r1 => (if r1 = 0 then
    (some ((-2 : Int32), g))
  else
    (nt_b1 (fSh_has x2 g) fun r3 => (if r3 = 0 then
    (some ((-2 : Int32), g))
  else
    ((if x1 = x2 then
    (some ((-2 : Int32), g))
  else
    (nt_b1 (fSh_join x1 x2 g) fun g6 => some ((1 : Int32), g6)))))))
set_option maxRecDepth 100000 in
set_option maxHeartbeats 4000000 in
theorem cNt_twin {l : Launch} {w : nt_w} (hw : nt_isX w) {x1 : Int32} {x2 : Int32} {g : nt_T} {r : Int32} {g2 : nt_T} (hf : fNt_twin x1 x2 g = some (r, g2)) : nt_Mi l w yX8_twin cX8_twin 3 (some .int) 9 [.ref (nt_a w 0), .int x1, .int x2] g r g2 := by
  refine nt_Mi_of (by decide) (Nat.le_of_ble_eq_true rfl) (fun p e s m args below meth c A X => ?_)
  have X : nt_X cX8_twin 3 RX8 (some .int) w A p s m args meth c := X
  have h : nt_R (fNt_twin x1 x2 g) (fun z => z = (r, g2)) := ⟨_, hf, rfl⟩
  unfold fNt_twin at h
  show nt_G p l e (nt_rm 9) s m args below meth c w A 0 0 (nt_Qi w A below args s r g2) 3 0 [(0, .ref (nt_a w 0)), (1, .int x1), (2, .int x2)] [] g
  refine nt_aload_n X dX8_twin_0 rfl 0 rfl ?_
  refine nt_get X 0 inX8 (nt_lX hw (Nat.le_of_ble_eq_true rfl)) (nt_e0 hw) rfl (j := 0) (by decide) wd_312 (v := .ref (nt_a w 1)) rfl dX8_twin_1 ?_
  refine nt_iload_n X dX8_twin_4 rfl 1 rfl ?_
  obtain ⟨r1, er1, h⟩ := nt_R_b1 h
  refine nt_cVNi X (As := [.int x1]) 1 (nt_lX hw (Nat.le_of_ble_eq_true rfl)) (nt_e1 hw) rfl (cSh_has hw er1) wd_344 nt_nm13 wd_343 wd_1025 wd_2 hd_X5_has ⟨Nat.le_of_ble_eq_true rfl, Nat.le_of_ble_eq_true rfl⟩ ⟨Nat.le_refl 0, Nat.le_refl 0⟩ (Nat.le_of_ble_eq_true rfl) rfl dX8_twin_5 ?_
  obtain ⟨ht, hf⟩ := nt_R_if h
  refine nt_if_eq X 27 dX8_twin_8 (by decide) (fun q2 => ?_) (fun q2 => ?_)
  · have h := ht q2
    refine nt_bipush X dX8_twin_27 nt_cb_m2 ?_
    have h := nt_R_some h
    exact nt_iret X dX8_twin_29 h
  · have h := hf q2
    refine nt_aload_n X dX8_twin_11 rfl 0 rfl ?_
    refine nt_get X 0 inX8 (nt_lX hw (Nat.le_of_ble_eq_true rfl)) (nt_e0 hw) rfl (j := 0) (by decide) wd_312 (v := .ref (nt_a w 1)) rfl dX8_twin_12 ?_
    refine nt_iload_n X dX8_twin_15 rfl 2 rfl ?_
    obtain ⟨r3, er3, h⟩ := nt_R_b1 h
    refine nt_cVNi X (As := [.int x2]) 1 (nt_lX hw (Nat.le_of_ble_eq_true rfl)) (nt_e1 hw) rfl (cSh_has hw er3) wd_344 nt_nm13 wd_343 wd_1025 wd_2 hd_X5_has ⟨Nat.le_of_ble_eq_true rfl, Nat.le_of_ble_eq_true rfl⟩ ⟨Nat.le_refl 0, Nat.le_refl 0⟩ (Nat.le_of_ble_eq_true rfl) rfl dX8_twin_16 ?_
    obtain ⟨ht, hf⟩ := nt_R_if h
    refine nt_if_eq X 27 dX8_twin_19 (by decide) (fun q4 => ?_) (fun q4 => ?_)
    · have h := ht q4
      refine nt_bipush X dX8_twin_27 nt_cb_m2 ?_
      have h := nt_R_some h
      exact nt_iret X dX8_twin_29 h
    · have h := hf q4
      refine nt_iload_n X dX8_twin_22 rfl 1 rfl ?_
      refine nt_iload_n X dX8_twin_23 rfl 2 rfl ?_
      obtain ⟨ht, hf⟩ := nt_R_if h
      refine nt_icmp_ne X 30 dX8_twin_24 (by decide) (fun q5 => ?_) (fun q5 => ?_)
      · have h := hf q5
        refine nt_aload_n X dX8_twin_30 rfl 0 rfl ?_
        refine nt_get X 0 inX8 (nt_lX hw (Nat.le_of_ble_eq_true rfl)) (nt_e0 hw) rfl (j := 0) (by decide) wd_312 (v := .ref (nt_a w 1)) rfl dX8_twin_31 ?_
        refine nt_iload_n X dX8_twin_34 rfl 1 rfl ?_
        refine nt_iload_n X dX8_twin_35 rfl 2 rfl ?_
        obtain ⟨g6, eg6, h⟩ := nt_R_b1 h
        refine nt_cVNv X (As := [.int x1, .int x2]) 1 (nt_lX hw (Nat.le_of_ble_eq_true rfl)) (nt_e1 hw) rfl (cSh_join hw eg6) wd_346 nt_nm15 wd_345 wd_1026 wd_2 hd_X5_join ⟨Nat.le_of_ble_eq_true rfl, Nat.le_of_ble_eq_true rfl⟩ ⟨Nat.le_refl 0, Nat.le_refl 0⟩ (Nat.le_of_ble_eq_true rfl) rfl dX8_twin_36 ?_
        refine nt_iconst X dX8_twin_39 nt_ci_1 ?_
        have h := nt_R_some h
        exact nt_iret X dX8_twin_40 h
      · have h := ht q5
        refine nt_bipush X dX8_twin_27 nt_cb_m2 ?_
        have h := nt_R_some h
        exact nt_iret X dX8_twin_29 h
def fNt_person (x1 : Int32) (x2 : Int32) (g : nt_T) : Option (Int32 × nt_T) :=
  nt_b2 (fPp_come 14 x1 x2 g) fun r1 g2 => some (r1, g2)
set_option maxRecDepth 100000 in
set_option maxHeartbeats 4000000 in
theorem cNt_person {l : Launch} {w : nt_w} (hw : nt_isX w) {x1 : Int32} {x2 : Int32} {g : nt_T} {r : Int32} {g2 : nt_T} (hf : fNt_person x1 x2 g = some (r, g2)) : nt_Mi l w yX8_person cX8_person 3 (some .int) 5 [.ref (nt_a w 0), .int x1, .int x2] g r g2 := by
  refine nt_Mi_of (by decide) (Nat.le_of_ble_eq_true rfl) (fun p e s m args below meth c A X => ?_)
  have X : nt_X cX8_person 3 RX8 (some .int) w A p s m args meth c := X
  have h : nt_R (fNt_person x1 x2 g) (fun z => z = (r, g2)) := ⟨_, hf, rfl⟩
  unfold fNt_person at h
  show nt_G p l e (nt_rm 5) s m args below meth c w A 0 0 (nt_Qi w A below args s r g2) 3 0 [(0, .ref (nt_a w 0)), (1, .int x1), (2, .int x2)] [] g
  refine nt_aload_n X dX8_person_0 rfl 0 rfl ?_
  refine nt_get X 0 inX8 (nt_lX hw (Nat.le_of_ble_eq_true rfl)) (nt_e0 hw) rfl (j := 3) (by decide) wd_315 (v := .ref (nt_a w 14)) rfl dX8_person_1 ?_
  refine nt_iload_n X dX8_person_4 rfl 1 rfl ?_
  refine nt_iload_n X dX8_person_5 rfl 2 rfl ?_
  obtain ⟨r1, g2, er1, h⟩ := nt_R_b2 h
  refine nt_cVNi X (As := [.int x1, .int x2]) 14 (nt_lP hw nt_p14 0 (by decide)) (nt_eP hw nt_p14) rfl (cPp_come hw nt_p14 er1) wd_356 nt_nm16 wd_355 wd_1028 wd_13 hd_X0_come ⟨Nat.le_of_ble_eq_true rfl, Nat.le_of_ble_eq_true rfl⟩ ⟨Nat.le_refl 0, Nat.le_refl 0⟩ (Nat.le_of_ble_eq_true rfl) rfl dX8_person_6 ?_
  have h := nt_R_some h
  exact nt_iret X dX8_person_9 h
def fNt_set (x1 : Int32) (x2 : Int32) (x3 : Int32) (g : nt_T) : Option (Int32 × nt_T) :=
  nt_b1 (fPp_has 14 x2 g) fun r1 => (if r1 = 0 then
    (some ((-2 : Int32), g))
  else
    ((if x1 = 0 then
    (nt_b1 (fNt_isHouse x3 g) fun r3 => (if r3 = 0 then
    (some ((-2 : Int32), g))
  else
    (nt_b2 (fNt_put 15 x2 x3 g) fun r5 g6 => some (r5, g6))))
  else
    (if x1 = 1 then
    (nt_b1 (fNt_isBelow x3 (100 : Int32) g) fun r7 => (if r7 = 0 then
    (some ((-2 : Int32), g))
  else
    (nt_b2 (fNt_put 16 x2 x3 g) fun r9 g10 => some (r9, g10))))
  else
    (if x1 = 2 then
    (nt_b1 (fNt_isBelow x3 (256 : Int32) g) fun r11 => (if r11 = 0 then
    (some ((-2 : Int32), g))
  else
    (nt_b2 (fNt_put 17 x2 x3 g) fun r13 g14 => some (r13, g14))))
  else
    some ((-2 : Int32), g))))))
set_option maxRecDepth 100000 in
set_option maxHeartbeats 4000000 in
theorem cNt_set {l : Launch} {w : nt_w} (hw : nt_isX w) {x1 : Int32} {x2 : Int32} {x3 : Int32} {g : nt_T} {r : Int32} {g2 : nt_T} (hf : fNt_set x1 x2 x3 g = some (r, g2)) : nt_Mi l w yX8_set cX8_set 4 (some .int) 5 [.ref (nt_a w 0), .int x1, .int x2, .int x3] g r g2 := by
  refine nt_Mi_of (by decide) (Nat.le_of_ble_eq_true rfl) (fun p e s m args below meth c A X => ?_)
  have X : nt_X cX8_set 4 RX8 (some .int) w A p s m args meth c := X
  have h : nt_R (fNt_set x1 x2 x3 g) (fun z => z = (r, g2)) := ⟨_, hf, rfl⟩
  unfold fNt_set at h
  show nt_G p l e (nt_rm 5) s m args below meth c w A 0 0 (nt_Qi w A below args s r g2) 4 0 [(0, .ref (nt_a w 0)), (1, .int x1), (2, .int x2), (3, .int x3)] [] g
  refine nt_aload_n X dX8_set_0 rfl 0 rfl ?_
  refine nt_get X 0 inX8 (nt_lX hw (Nat.le_of_ble_eq_true rfl)) (nt_e0 hw) rfl (j := 3) (by decide) wd_315 (v := .ref (nt_a w 14)) rfl dX8_set_1 ?_
  refine nt_iload_n X dX8_set_4 rfl 2 rfl ?_
  obtain ⟨r1, er1, h⟩ := nt_R_b1 h
  refine nt_cVNi X (As := [.int x2]) 14 (nt_lP hw nt_p14 0 (by decide)) (nt_eP hw nt_p14) rfl (cPp_has hw nt_p14 er1) wd_365 nt_nm18 wd_364 wd_1030 wd_13 hd_X0_has ⟨Nat.le_of_ble_eq_true rfl, Nat.le_of_ble_eq_true rfl⟩ ⟨Nat.le_refl 0, Nat.le_refl 0⟩ (Nat.le_of_ble_eq_true rfl) rfl dX8_set_5 ?_
  obtain ⟨ht, hf⟩ := nt_R_if h
  refine nt_if_ne X 14 dX8_set_8 (by decide) (fun q2 => ?_) (fun q2 => ?_)
  · have h := hf q2
    refine nt_iload_n X dX8_set_14 rfl 1 rfl ?_
    obtain ⟨ht, hf⟩ := nt_R_if h
    rcases Decidable.em (x1 = 0) with q15_0 | q15_0
    · have h := ht q15_0
      refine nt_tblIn X 40 dX8_set_15 (off := 25) (by rw [q15_0]; decide) (by rw [q15_0]; decide) (by rw [q15_0]; rfl) (by decide) ?_
      refine nt_iload_n X dX8_set_40 rfl 3 rfl ?_
      obtain ⟨r3, er3, h⟩ := nt_R_b1 h
      refine nt_cSi X (As := [.int x3]) (cNt_isHouse hw er3) wd_368 wd_366 wd_367 wd_1 hd_X8_isHouse ⟨Nat.le_of_ble_eq_true rfl, Nat.le_of_ble_eq_true rfl⟩ ⟨Nat.le_refl 0, Nat.le_refl 0⟩ (Nat.le_of_ble_eq_true rfl) rfl dX8_set_41 ?_
      obtain ⟨ht, hf⟩ := nt_R_if h
      refine nt_if_eq X 62 dX8_set_44 (by decide) (fun q4 => ?_) (fun q4 => ?_)
      · have h := ht q4
        refine nt_bipush X dX8_set_62 nt_cb_m2 ?_
        have h := nt_R_some h
        exact nt_iret X dX8_set_64 h
      · have h := hf q4
        refine nt_aload_n X dX8_set_47 rfl 0 rfl ?_
        refine nt_get X 0 inX8 (nt_lX hw (Nat.le_of_ble_eq_true rfl)) (nt_e0 hw) rfl (j := 3) (by decide) wd_315 (v := .ref (nt_a w 14)) rfl dX8_set_48 ?_
        refine nt_getN X 14 inX0 (nt_lP hw nt_p14 0 (by decide)) (nt_eP hw nt_p14) rfl (j := 2) (by decide) nt_nf12 (v := .ref (nt_a w 15)) rfl dX8_set_51 ?_
        refine nt_iload_n X dX8_set_54 rfl 2 rfl ?_
        refine nt_iload_n X dX8_set_55 rfl 3 rfl ?_
        obtain ⟨r5, g6, er5, h⟩ := nt_R_b2 h
        refine nt_cSi X (As := [.ref (nt_a w 15), .int x2, .int x3]) (cNt_put hw (nt_lP hw nt_p14 1 (by decide)) (nt_eP1 hw nt_p14) er5) wd_371 wd_369 wd_370 wd_1 hd_X8_put ⟨Nat.le_of_ble_eq_true rfl, Nat.le_of_ble_eq_true rfl⟩ ⟨Nat.le_refl 0, Nat.le_refl 0⟩ (Nat.le_of_ble_eq_true rfl) rfl dX8_set_56 ?_
        refine nt_goto X 64 dX8_set_59 (by decide) ?_
        have h := nt_R_some h
        exact nt_iret X dX8_set_64 h
    · have h := hf q15_0
      obtain ⟨ht, hf⟩ := nt_R_if h
      rcases Decidable.em (x1 = 1) with q15_1 | q15_1
      · have h := ht q15_1
        refine nt_tblIn X 65 dX8_set_15 (off := 50) (by rw [q15_1]; decide) (by rw [q15_1]; decide) (by rw [q15_1]; rfl) (by decide) ?_
        refine nt_iload_n X dX8_set_65 rfl 3 rfl ?_
        refine nt_bipush X dX8_set_66 nt_cb_100 ?_
        obtain ⟨r7, er7, h⟩ := nt_R_b1 h
        refine nt_cSi X (As := [.int x3, .int (100 : Int32)]) (cNt_isBelow hw er7) wd_336 wd_334 wd_335 wd_1 hd_X8_isBelow ⟨Nat.le_of_ble_eq_true rfl, Nat.le_of_ble_eq_true rfl⟩ ⟨Nat.le_refl 0, Nat.le_refl 0⟩ (Nat.le_of_ble_eq_true rfl) rfl dX8_set_68 ?_
        obtain ⟨ht, hf⟩ := nt_R_if h
        refine nt_if_eq X 89 dX8_set_71 (by decide) (fun q8 => ?_) (fun q8 => ?_)
        · have h := ht q8
          refine nt_bipush X dX8_set_89 nt_cb_m2 ?_
          have h := nt_R_some h
          exact nt_iret X dX8_set_91 h
        · have h := hf q8
          refine nt_aload_n X dX8_set_74 rfl 0 rfl ?_
          refine nt_get X 0 inX8 (nt_lX hw (Nat.le_of_ble_eq_true rfl)) (nt_e0 hw) rfl (j := 3) (by decide) wd_315 (v := .ref (nt_a w 14)) rfl dX8_set_75 ?_
          refine nt_getN X 14 inX0 (nt_lP hw nt_p14 0 (by decide)) (nt_eP hw nt_p14) rfl (j := 3) (by decide) nt_nf13 (v := .ref (nt_a w 16)) rfl dX8_set_78 ?_
          refine nt_iload_n X dX8_set_81 rfl 2 rfl ?_
          refine nt_iload_n X dX8_set_82 rfl 3 rfl ?_
          obtain ⟨r9, g10, er9, h⟩ := nt_R_b2 h
          refine nt_cSi X (As := [.ref (nt_a w 16), .int x2, .int x3]) (cNt_put hw (nt_lP hw nt_p14 2 (by decide)) (nt_eP2 hw nt_p14) er9) wd_371 wd_369 wd_370 wd_1 hd_X8_put ⟨Nat.le_of_ble_eq_true rfl, Nat.le_of_ble_eq_true rfl⟩ ⟨Nat.le_refl 0, Nat.le_refl 0⟩ (Nat.le_of_ble_eq_true rfl) rfl dX8_set_83 ?_
          refine nt_goto X 91 dX8_set_86 (by decide) ?_
          have h := nt_R_some h
          exact nt_iret X dX8_set_91 h
      · have h := hf q15_1
        obtain ⟨ht, hf⟩ := nt_R_if h
        rcases Decidable.em (x1 = 2) with q15_2 | q15_2
        · have h := ht q15_2
          refine nt_tblIn X 92 dX8_set_15 (off := 77) (by rw [q15_2]; decide) (by rw [q15_2]; decide) (by rw [q15_2]; rfl) (by decide) ?_
          refine nt_iload_n X dX8_set_92 rfl 3 rfl ?_
          refine nt_sipush X dX8_set_93 nt_cs_256 ?_
          obtain ⟨r11, er11, h⟩ := nt_R_b1 h
          refine nt_cSi X (As := [.int x3, .int (256 : Int32)]) (cNt_isBelow hw er11) wd_336 wd_334 wd_335 wd_1 hd_X8_isBelow ⟨Nat.le_of_ble_eq_true rfl, Nat.le_of_ble_eq_true rfl⟩ ⟨Nat.le_refl 0, Nat.le_refl 0⟩ (Nat.le_of_ble_eq_true rfl) rfl dX8_set_96 ?_
          obtain ⟨ht, hf⟩ := nt_R_if h
          refine nt_if_eq X 117 dX8_set_99 (by decide) (fun q12 => ?_) (fun q12 => ?_)
          · have h := ht q12
            refine nt_bipush X dX8_set_117 nt_cb_m2 ?_
            have h := nt_R_some h
            exact nt_iret X dX8_set_119 h
          · have h := hf q12
            refine nt_aload_n X dX8_set_102 rfl 0 rfl ?_
            refine nt_get X 0 inX8 (nt_lX hw (Nat.le_of_ble_eq_true rfl)) (nt_e0 hw) rfl (j := 3) (by decide) wd_315 (v := .ref (nt_a w 14)) rfl dX8_set_103 ?_
            refine nt_getN X 14 inX0 (nt_lP hw nt_p14 0 (by decide)) (nt_eP hw nt_p14) rfl (j := 4) (by decide) nt_nf15 (v := .ref (nt_a w 17)) rfl dX8_set_106 ?_
            refine nt_iload_n X dX8_set_109 rfl 2 rfl ?_
            refine nt_iload_n X dX8_set_110 rfl 3 rfl ?_
            obtain ⟨r13, g14, er13, h⟩ := nt_R_b2 h
            refine nt_cSi X (As := [.ref (nt_a w 17), .int x2, .int x3]) (cNt_put hw (nt_lP hw nt_p14 3 (by decide)) (nt_eP3 hw nt_p14) er13) wd_371 wd_369 wd_370 wd_1 hd_X8_put ⟨Nat.le_of_ble_eq_true rfl, Nat.le_of_ble_eq_true rfl⟩ ⟨Nat.le_refl 0, Nat.le_refl 0⟩ (Nat.le_of_ble_eq_true rfl) rfl dX8_set_111 ?_
            refine nt_goto X 119 dX8_set_114 (by decide) ?_
            have h := nt_R_some h
            exact nt_iret X dX8_set_119 h
        · have h := hf q15_2
          refine nt_tblOut X 120 dX8_set_15 (by have w0 := lv_neT q15_0 (a := 0) (by decide); have w1 := lv_neT q15_1 (a := 1) (by decide); have w2 := lv_neT q15_2 (a := 2) (by decide); omega) (by decide) ?_
          refine nt_bipush X dX8_set_120 nt_cb_m2 ?_
          have h := nt_R_some h
          exact nt_iret X dX8_set_122 h
  · have h := ht q2
    refine nt_bipush X dX8_set_11 nt_cb_m2 ?_
    have h := nt_R_some h
    exact nt_iret X dX8_set_13 h
def fNt_hears (x1 : Int32) (x2 : Int32) (x3 : Int32) (g : nt_T) : Option (Int32 × nt_T) :=
  nt_b1 (fPp_has 14 x1 g) fun r1 => (if r1 = 0 then
    (some ((-2 : Int32), g))
  else
    (nt_b1 (fSh_has x2 g) fun r3 => (if r3 = 0 then
    (some ((-2 : Int32), g))
  else
    (nt_b1 (fNt_isBelow x3 (2 : Int32) g) fun r5 => (if r5 = 0 then
    (some ((-2 : Int32), g))
  else
    (nt_gd (nt_in x1 9) <| nt_lt (((g 18 (Int32.toNatClampNeg x1)) >>> (x2 &&& 31)) &&& (1 : Int32)) fun v8 => (if x3 = (1 : Int32) then
    (nt_b1 (fPp_hear 14 x1 x2 g) fun g11 => some (v8, g11))
  else
    (nt_b1 (fPp_forget 14 x1 x2 g) fun g10 => some (v8, g10)))))))))
set_option maxRecDepth 100000 in
set_option maxHeartbeats 4000000 in
theorem cNt_hears {l : Launch} {w : nt_w} (hw : nt_isX w) {x1 : Int32} {x2 : Int32} {x3 : Int32} {g : nt_T} {r : Int32} {g2 : nt_T} (hf : fNt_hears x1 x2 x3 g = some (r, g2)) : nt_Mi l w yX8_hears cX8_hears 5 (some .int) 5 [.ref (nt_a w 0), .int x1, .int x2, .int x3] g r g2 := by
  refine nt_Mi_of (by decide) (Nat.le_of_ble_eq_true rfl) (fun p e s m args below meth c A X => ?_)
  have X : nt_X cX8_hears 5 RX8 (some .int) w A p s m args meth c := X
  have h : nt_R (fNt_hears x1 x2 x3 g) (fun z => z = (r, g2)) := ⟨_, hf, rfl⟩
  unfold fNt_hears at h
  show nt_G p l e (nt_rm 5) s m args below meth c w A 0 0 (nt_Qi w A below args s r g2) 5 0 [(0, .ref (nt_a w 0)), (1, .int x1), (2, .int x2), (3, .int x3)] [] g
  refine nt_aload_n X dX8_hears_0 rfl 0 rfl ?_
  refine nt_get X 0 inX8 (nt_lX hw (Nat.le_of_ble_eq_true rfl)) (nt_e0 hw) rfl (j := 3) (by decide) wd_315 (v := .ref (nt_a w 14)) rfl dX8_hears_1 ?_
  refine nt_iload_n X dX8_hears_4 rfl 1 rfl ?_
  obtain ⟨r1, er1, h⟩ := nt_R_b1 h
  refine nt_cVNi X (As := [.int x1]) 14 (nt_lP hw nt_p14 0 (by decide)) (nt_eP hw nt_p14) rfl (cPp_has hw nt_p14 er1) wd_365 nt_nm18 wd_364 wd_1030 wd_13 hd_X0_has ⟨Nat.le_of_ble_eq_true rfl, Nat.le_of_ble_eq_true rfl⟩ ⟨Nat.le_refl 0, Nat.le_refl 0⟩ (Nat.le_of_ble_eq_true rfl) rfl dX8_hears_5 ?_
  obtain ⟨ht, hf⟩ := nt_R_if h
  refine nt_if_eq X 30 dX8_hears_8 (by decide) (fun q2 => ?_) (fun q2 => ?_)
  · have h := ht q2
    refine nt_bipush X dX8_hears_30 nt_cb_m2 ?_
    have h := nt_R_some h
    exact nt_iret X dX8_hears_32 h
  · have h := hf q2
    refine nt_aload_n X dX8_hears_11 rfl 0 rfl ?_
    refine nt_get X 0 inX8 (nt_lX hw (Nat.le_of_ble_eq_true rfl)) (nt_e0 hw) rfl (j := 0) (by decide) wd_312 (v := .ref (nt_a w 1)) rfl dX8_hears_12 ?_
    refine nt_iload_n X dX8_hears_15 rfl 2 rfl ?_
    obtain ⟨r3, er3, h⟩ := nt_R_b1 h
    refine nt_cVNi X (As := [.int x2]) 1 (nt_lX hw (Nat.le_of_ble_eq_true rfl)) (nt_e1 hw) rfl (cSh_has hw er3) wd_344 nt_nm13 wd_343 wd_1025 wd_2 hd_X5_has ⟨Nat.le_of_ble_eq_true rfl, Nat.le_of_ble_eq_true rfl⟩ ⟨Nat.le_refl 0, Nat.le_refl 0⟩ (Nat.le_of_ble_eq_true rfl) rfl dX8_hears_16 ?_
    obtain ⟨ht, hf⟩ := nt_R_if h
    refine nt_if_eq X 30 dX8_hears_19 (by decide) (fun q4 => ?_) (fun q4 => ?_)
    · have h := ht q4
      refine nt_bipush X dX8_hears_30 nt_cb_m2 ?_
      have h := nt_R_some h
      exact nt_iret X dX8_hears_32 h
    · have h := hf q4
      refine nt_iload_n X dX8_hears_22 rfl 3 rfl ?_
      refine nt_iconst X dX8_hears_23 nt_ci_2 ?_
      obtain ⟨r5, er5, h⟩ := nt_R_b1 h
      refine nt_cSi X (As := [.int x3, .int (2 : Int32)]) (cNt_isBelow hw er5) wd_336 wd_334 wd_335 wd_1 hd_X8_isBelow ⟨Nat.le_of_ble_eq_true rfl, Nat.le_of_ble_eq_true rfl⟩ ⟨Nat.le_refl 0, Nat.le_refl 0⟩ (Nat.le_of_ble_eq_true rfl) rfl dX8_hears_24 ?_
      obtain ⟨ht, hf⟩ := nt_R_if h
      refine nt_if_ne X 33 dX8_hears_27 (by decide) (fun q6 => ?_) (fun q6 => ?_)
      · have h := hf q6
        refine nt_aload_n X dX8_hears_33 rfl 0 rfl ?_
        refine nt_get X 0 inX8 (nt_lX hw (Nat.le_of_ble_eq_true rfl)) (nt_e0 hw) rfl (j := 3) (by decide) wd_315 (v := .ref (nt_a w 14)) rfl dX8_hears_34 ?_
        refine nt_getN X 14 inX0 (nt_lP hw nt_p14 0 (by decide)) (nt_eP hw nt_p14) rfl (j := 5) (by decide) nt_nf16 (v := .ref (nt_a w 18)) rfl dX8_hears_37 ?_
        refine nt_iload_n X dX8_hears_40 rfl 1 rfl ?_
        obtain ⟨q7, h⟩ := nt_R_gd h
        refine nt_iald X 18 0 (nt_lP hw nt_p14 4 (by decide)) (nt_eP4 hw nt_p14) (nt_tX hw) q7 dX8_hears_41 ?_
        refine nt_iload_n X dX8_hears_42 rfl 2 rfl ?_
        refine nt_ishr X dX8_hears_43 ?_
        refine nt_iconst X dX8_hears_44 nt_ci_1 ?_
        refine nt_iand X dX8_hears_45 ?_
        obtain ⟨v8, ev8, h⟩ := nt_R_lt h
        refine nt_topi ev8 ?_
        refine nt_istore X [(4, .int v8), (0, .ref (nt_a w 0)), (1, .int x1), (2, .int x2), (3, .int x3)] dX8_hears_46 (by decide) rfl ?_
        refine nt_iload_n X dX8_hears_48 rfl 4 rfl ?_
        refine nt_iconst X dX8_hears_49 nt_ci_1 ?_
        obtain ⟨ht, hf⟩ := nt_R_if h
        refine nt_icmp_ne X 65 dX8_hears_50 (by decide) (fun q9 => ?_) (fun q9 => ?_)
        · have h := hf q9
          refine nt_aload_n X dX8_hears_65 rfl 1 rfl ?_
          refine nt_get X 0 inX8 (nt_lX hw (Nat.le_of_ble_eq_true rfl)) (nt_e0 hw) rfl (j := 3) (by decide) wd_315 (v := .ref (nt_a w 14)) rfl dX8_hears_66 ?_
          refine nt_iload_n X dX8_hears_69 rfl 2 rfl ?_
          refine nt_iload_n X dX8_hears_70 rfl 3 rfl ?_
          obtain ⟨g10, eg10, h⟩ := nt_R_b1 h
          refine nt_cVNv X (As := [.int x1, .int x2]) 14 (nt_lP hw nt_p14 0 (by decide)) (nt_eP hw nt_p14) rfl (cPp_forget hw nt_p14 eg10) wd_379 nt_nm20 wd_378 wd_1032 wd_13 hd_X0_forget ⟨Nat.le_of_ble_eq_true rfl, Nat.le_of_ble_eq_true rfl⟩ ⟨Nat.le_refl 0, Nat.le_refl 0⟩ (Nat.le_of_ble_eq_true rfl) rfl dX8_hears_71 ?_
          refine nt_iload X dX8_hears_74 0 rfl ?_
          have h := nt_R_some h
          exact nt_iret X dX8_hears_76 h
        · have h := ht q9
          refine nt_aload_n X dX8_hears_53 rfl 1 rfl ?_
          refine nt_get X 0 inX8 (nt_lX hw (Nat.le_of_ble_eq_true rfl)) (nt_e0 hw) rfl (j := 3) (by decide) wd_315 (v := .ref (nt_a w 14)) rfl dX8_hears_54 ?_
          refine nt_iload_n X dX8_hears_57 rfl 2 rfl ?_
          refine nt_iload_n X dX8_hears_58 rfl 3 rfl ?_
          obtain ⟨g11, eg11, h⟩ := nt_R_b1 h
          refine nt_cVNv X (As := [.int x1, .int x2]) 14 (nt_lP hw nt_p14 0 (by decide)) (nt_eP hw nt_p14) rfl (cPp_hear hw nt_p14 eg11) wd_377 nt_nm19 wd_376 wd_1031 wd_13 hd_X0_hear ⟨Nat.le_of_ble_eq_true rfl, Nat.le_of_ble_eq_true rfl⟩ ⟨Nat.le_refl 0, Nat.le_refl 0⟩ (Nat.le_of_ble_eq_true rfl) rfl dX8_hears_59 ?_
          refine nt_goto X 74 dX8_hears_62 (by decide) ?_
          refine nt_iload X dX8_hears_74 0 rfl ?_
          have h := nt_R_some h
          exact nt_iret X dX8_hears_76 h
      · have h := ht q6
        refine nt_bipush X dX8_hears_30 nt_cb_m2 ?_
        have h := nt_R_some h
        exact nt_iret X dX8_hears_32 h
def fNt_told (x1 : Int32) (x2 : Int32) (x3 : Int32) (g : nt_T) : Option (Int32) :=
  nt_b1 (fSh_has x1 g) fun r1 => (if r1 = 0 then
    (some (-2 : Int32))
  else
    (nt_b1 (fNt_isBelow x3 (100 : Int32) g) fun r3 => (if r3 = 0 then
    (some (-2 : Int32))
  else
    ((if x2 = 0 then
    (nt_gd (nt_in x1 8) <| some (g 2 (Int32.toNatClampNeg x1)))
  else
    (if x2 = 1 then
    (nt_gd (nt_in x1 8) <| some (g 3 (Int32.toNatClampNeg x1)))
  else
    (if x2 = 2 then
    (nt_gd (nt_in x1 8) <| some (g 4 (Int32.toNatClampNeg x1)))
  else
    (if x2 = 3 then
    (nt_gd (nt_in x1 8) <| some (g 5 (Int32.toNatClampNeg x1)))
  else
    (if x2 = 4 then
    (nt_b1 (fSh_stays x1 g) fun r9 => some r9)
  else
    (if x2 = 5 then
    (nt_b1 (fSh_counts x1 x3 g) fun r10 => some r10)
  else
    some (-2 : Int32)))))))))))
set_option maxRecDepth 100000 in
set_option maxHeartbeats 4000000 in
theorem cNt_told {l : Launch} {w : nt_w} (hw : nt_isX w) {x1 : Int32} {x2 : Int32} {x3 : Int32} {g : nt_T} {r : Int32} (hf : fNt_told x1 x2 x3 g = some r) : nt_Mi l w yX8_told cX8_told 4 (some .int) 5 [.ref (nt_a w 0), .int x1, .int x2, .int x3] g r g := by
  refine nt_Mi_of (by decide) (Nat.le_of_ble_eq_true rfl) (fun p e s m args below meth c A X => ?_)
  have X : nt_X cX8_told 4 RX8 (some .int) w A p s m args meth c := X
  have hg : g = g := rfl
  have h : nt_R (fNt_told x1 x2 x3 g) (fun z => z = r) := ⟨_, hf, rfl⟩
  unfold fNt_told at h
  show nt_G p l e (nt_rm 5) s m args below meth c w A 0 0 (nt_Qi w A below args s r g) 4 0 [(0, .ref (nt_a w 0)), (1, .int x1), (2, .int x2), (3, .int x3)] [] g
  refine nt_aload_n X dX8_told_0 rfl 0 rfl ?_
  refine nt_get X 0 inX8 (nt_lX hw (Nat.le_of_ble_eq_true rfl)) (nt_e0 hw) rfl (j := 0) (by decide) wd_312 (v := .ref (nt_a w 1)) rfl dX8_told_1 ?_
  refine nt_iload_n X dX8_told_4 rfl 1 rfl ?_
  obtain ⟨r1, er1, h⟩ := nt_R_b1 h
  refine nt_cVNi X (As := [.int x1]) 1 (nt_lX hw (Nat.le_of_ble_eq_true rfl)) (nt_e1 hw) rfl (cSh_has hw er1) wd_344 nt_nm13 wd_343 wd_1025 wd_2 hd_X5_has ⟨Nat.le_of_ble_eq_true rfl, Nat.le_of_ble_eq_true rfl⟩ ⟨Nat.le_refl 0, Nat.le_refl 0⟩ (Nat.le_of_ble_eq_true rfl) rfl dX8_told_5 ?_
  obtain ⟨ht, hf⟩ := nt_R_if h
  refine nt_if_eq X 20 dX8_told_8 (by decide) (fun q2 => ?_) (fun q2 => ?_)
  · have h := ht q2
    refine nt_bipush X dX8_told_20 nt_cb_m2 ?_
    have h := nt_R_some h
    exact nt_iret X dX8_told_22 (nt_pe h hg)
  · have h := hf q2
    refine nt_iload_n X dX8_told_11 rfl 3 rfl ?_
    refine nt_bipush X dX8_told_12 nt_cb_100 ?_
    obtain ⟨r3, er3, h⟩ := nt_R_b1 h
    refine nt_cSi X (As := [.int x3, .int (100 : Int32)]) (cNt_isBelow hw er3) wd_336 wd_334 wd_335 wd_1 hd_X8_isBelow ⟨Nat.le_of_ble_eq_true rfl, Nat.le_of_ble_eq_true rfl⟩ ⟨Nat.le_refl 0, Nat.le_refl 0⟩ (Nat.le_of_ble_eq_true rfl) rfl dX8_told_14 ?_
    obtain ⟨ht, hf⟩ := nt_R_if h
    refine nt_if_ne X 23 dX8_told_17 (by decide) (fun q4 => ?_) (fun q4 => ?_)
    · have h := hf q4
      refine nt_iload_n X dX8_told_23 rfl 2 rfl ?_
      obtain ⟨ht, hf⟩ := nt_R_if h
      rcases Decidable.em (x2 = 0) with q24_0 | q24_0
      · have h := ht q24_0
        refine nt_tblIn X 64 dX8_told_24 (off := 40) (by rw [q24_0]; decide) (by rw [q24_0]; decide) (by rw [q24_0]; rfl) (by decide) ?_
        refine nt_aload_n X dX8_told_64 rfl 0 rfl ?_
        refine nt_get X 0 inX8 (nt_lX hw (Nat.le_of_ble_eq_true rfl)) (nt_e0 hw) rfl (j := 0) (by decide) wd_312 (v := .ref (nt_a w 1)) rfl dX8_told_65 ?_
        refine nt_getN X 1 inX5 (nt_lX hw (Nat.le_of_ble_eq_true rfl)) (nt_e1 hw) rfl (j := 0) (by decide) nt_nf0 (v := .ref (nt_a w 2)) rfl dX8_told_68 ?_
        refine nt_iload_n X dX8_told_71 rfl 1 rfl ?_
        obtain ⟨q5, h⟩ := nt_R_gd h
        refine nt_iald X 2 0 (nt_lX hw (Nat.le_of_ble_eq_true rfl)) (nt_e2 hw) (nt_tX hw) q5 dX8_told_72 ?_
        have h := nt_R_some h
        exact nt_iret X dX8_told_73 (nt_pe h hg)
      · have h := hf q24_0
        obtain ⟨ht, hf⟩ := nt_R_if h
        rcases Decidable.em (x2 = 1) with q24_1 | q24_1
        · have h := ht q24_1
          refine nt_tblIn X 74 dX8_told_24 (off := 50) (by rw [q24_1]; decide) (by rw [q24_1]; decide) (by rw [q24_1]; rfl) (by decide) ?_
          refine nt_aload_n X dX8_told_74 rfl 0 rfl ?_
          refine nt_get X 0 inX8 (nt_lX hw (Nat.le_of_ble_eq_true rfl)) (nt_e0 hw) rfl (j := 0) (by decide) wd_312 (v := .ref (nt_a w 1)) rfl dX8_told_75 ?_
          refine nt_getN X 1 inX5 (nt_lX hw (Nat.le_of_ble_eq_true rfl)) (nt_e1 hw) rfl (j := 1) (by decide) nt_nf1 (v := .ref (nt_a w 3)) rfl dX8_told_78 ?_
          refine nt_iload_n X dX8_told_81 rfl 1 rfl ?_
          obtain ⟨q6, h⟩ := nt_R_gd h
          refine nt_iald X 3 0 (nt_lX hw (Nat.le_of_ble_eq_true rfl)) (nt_e3 hw) (nt_tX hw) q6 dX8_told_82 ?_
          have h := nt_R_some h
          exact nt_iret X dX8_told_83 (nt_pe h hg)
        · have h := hf q24_1
          obtain ⟨ht, hf⟩ := nt_R_if h
          rcases Decidable.em (x2 = 2) with q24_2 | q24_2
          · have h := ht q24_2
            refine nt_tblIn X 84 dX8_told_24 (off := 60) (by rw [q24_2]; decide) (by rw [q24_2]; decide) (by rw [q24_2]; rfl) (by decide) ?_
            refine nt_aload_n X dX8_told_84 rfl 0 rfl ?_
            refine nt_get X 0 inX8 (nt_lX hw (Nat.le_of_ble_eq_true rfl)) (nt_e0 hw) rfl (j := 0) (by decide) wd_312 (v := .ref (nt_a w 1)) rfl dX8_told_85 ?_
            refine nt_getN X 1 inX5 (nt_lX hw (Nat.le_of_ble_eq_true rfl)) (nt_e1 hw) rfl (j := 2) (by decide) nt_nf2 (v := .ref (nt_a w 4)) rfl dX8_told_88 ?_
            refine nt_iload_n X dX8_told_91 rfl 1 rfl ?_
            obtain ⟨q7, h⟩ := nt_R_gd h
            refine nt_iald X 4 0 (nt_lX hw (Nat.le_of_ble_eq_true rfl)) (nt_e4 hw) (nt_tX hw) q7 dX8_told_92 ?_
            have h := nt_R_some h
            exact nt_iret X dX8_told_93 (nt_pe h hg)
          · have h := hf q24_2
            obtain ⟨ht, hf⟩ := nt_R_if h
            rcases Decidable.em (x2 = 3) with q24_3 | q24_3
            · have h := ht q24_3
              refine nt_tblIn X 94 dX8_told_24 (off := 70) (by rw [q24_3]; decide) (by rw [q24_3]; decide) (by rw [q24_3]; rfl) (by decide) ?_
              refine nt_aload_n X dX8_told_94 rfl 0 rfl ?_
              refine nt_get X 0 inX8 (nt_lX hw (Nat.le_of_ble_eq_true rfl)) (nt_e0 hw) rfl (j := 0) (by decide) wd_312 (v := .ref (nt_a w 1)) rfl dX8_told_95 ?_
              refine nt_getN X 1 inX5 (nt_lX hw (Nat.le_of_ble_eq_true rfl)) (nt_e1 hw) rfl (j := 3) (by decide) nt_nf3 (v := .ref (nt_a w 5)) rfl dX8_told_98 ?_
              refine nt_iload_n X dX8_told_101 rfl 1 rfl ?_
              obtain ⟨q8, h⟩ := nt_R_gd h
              refine nt_iald X 5 0 (nt_lX hw (Nat.le_of_ble_eq_true rfl)) (nt_e5 hw) (nt_tX hw) q8 dX8_told_102 ?_
              have h := nt_R_some h
              exact nt_iret X dX8_told_103 (nt_pe h hg)
            · have h := hf q24_3
              obtain ⟨ht, hf⟩ := nt_R_if h
              rcases Decidable.em (x2 = 4) with q24_4 | q24_4
              · have h := ht q24_4
                refine nt_tblIn X 104 dX8_told_24 (off := 80) (by rw [q24_4]; decide) (by rw [q24_4]; decide) (by rw [q24_4]; rfl) (by decide) ?_
                refine nt_aload_n X dX8_told_104 rfl 0 rfl ?_
                refine nt_get X 0 inX8 (nt_lX hw (Nat.le_of_ble_eq_true rfl)) (nt_e0 hw) rfl (j := 0) (by decide) wd_312 (v := .ref (nt_a w 1)) rfl dX8_told_105 ?_
                refine nt_iload_n X dX8_told_108 rfl 1 rfl ?_
                obtain ⟨r9, er9, h⟩ := nt_R_b1 h
                refine nt_cVNi X (As := [.int x1]) 1 (nt_lX hw (Nat.le_of_ble_eq_true rfl)) (nt_e1 hw) rfl (cSh_stays hw er9) wd_385 nt_nm21 wd_384 wd_1033 wd_2 hd_X5_stays ⟨Nat.le_of_ble_eq_true rfl, Nat.le_of_ble_eq_true rfl⟩ ⟨Nat.le_refl 0, Nat.le_refl 0⟩ (Nat.le_of_ble_eq_true rfl) rfl dX8_told_109 ?_
                have h := nt_R_some h
                exact nt_iret X dX8_told_112 (nt_pe h hg)
              · have h := hf q24_4
                obtain ⟨ht, hf⟩ := nt_R_if h
                rcases Decidable.em (x2 = 5) with q24_5 | q24_5
                · have h := ht q24_5
                  refine nt_tblIn X 113 dX8_told_24 (off := 89) (by rw [q24_5]; decide) (by rw [q24_5]; decide) (by rw [q24_5]; rfl) (by decide) ?_
                  refine nt_aload_n X dX8_told_113 rfl 0 rfl ?_
                  refine nt_get X 0 inX8 (nt_lX hw (Nat.le_of_ble_eq_true rfl)) (nt_e0 hw) rfl (j := 0) (by decide) wd_312 (v := .ref (nt_a w 1)) rfl dX8_told_114 ?_
                  refine nt_iload_n X dX8_told_117 rfl 1 rfl ?_
                  refine nt_iload_n X dX8_told_118 rfl 3 rfl ?_
                  obtain ⟨r10, er10, h⟩ := nt_R_b1 h
                  refine nt_cVNi X (As := [.int x1, .int x3]) 1 (nt_lX hw (Nat.le_of_ble_eq_true rfl)) (nt_e1 hw) rfl (cSh_counts hw er10) wd_388 nt_nm22 wd_387 wd_1034 wd_2 hd_X5_counts ⟨Nat.le_of_ble_eq_true rfl, Nat.le_of_ble_eq_true rfl⟩ ⟨Nat.le_refl 0, Nat.le_refl 0⟩ (Nat.le_of_ble_eq_true rfl) rfl dX8_told_119 ?_
                  have h := nt_R_some h
                  exact nt_iret X dX8_told_122 (nt_pe h hg)
                · have h := hf q24_5
                  refine nt_tblOut X 123 dX8_told_24 (by have w0 := lv_neT q24_0 (a := 0) (by decide); have w1 := lv_neT q24_1 (a := 1) (by decide); have w2 := lv_neT q24_2 (a := 2) (by decide); have w3 := lv_neT q24_3 (a := 3) (by decide); have w4 := lv_neT q24_4 (a := 4) (by decide); have w5 := lv_neT q24_5 (a := 5) (by decide); omega) (by decide) ?_
                  refine nt_bipush X dX8_told_123 nt_cb_m2 ?_
                  have h := nt_R_some h
                  exact nt_iret X dX8_told_125 (nt_pe h hg)
    · have h := ht q4
      refine nt_bipush X dX8_told_20 nt_cb_m2 ?_
      have h := nt_R_some h
      exact nt_iret X dX8_told_22 (nt_pe h hg)
def fNt_one (x1 : Int32) (x2 : Int32) (g : nt_T) : Option (Int32) :=
  nt_b1 (fPp_has 14 x1 g) fun r1 => (if r1 = 0 then
    (some (-2 : Int32))
  else
    ((if x2 = 0 then
    (nt_gd (nt_in x1 9) <| some (g 15 (Int32.toNatClampNeg x1)))
  else
    (if x2 = 1 then
    (nt_gd (nt_in x1 9) <| some (g 16 (Int32.toNatClampNeg x1)))
  else
    (if x2 = 2 then
    (nt_gd (nt_in x1 9) <| some (g 17 (Int32.toNatClampNeg x1)))
  else
    (if x2 = 3 then
    (nt_gd (nt_in x1 9) <| some (g 18 (Int32.toNatClampNeg x1)))
  else
    (if x2 = 4 then
    (nt_b1 (fPp_knows 14 x1 g) fun r7 => some r7)
  else
    some (-2 : Int32))))))))
set_option maxRecDepth 100000 in
set_option maxHeartbeats 4000000 in
theorem cNt_one {l : Launch} {w : nt_w} (hw : nt_isX w) {x1 : Int32} {x2 : Int32} {g : nt_T} {r : Int32} (hf : fNt_one x1 x2 g = some r) : nt_Mi l w yX8_one cX8_one 3 (some .int) 5 [.ref (nt_a w 0), .int x1, .int x2] g r g := by
  refine nt_Mi_of (by decide) (Nat.le_of_ble_eq_true rfl) (fun p e s m args below meth c A X => ?_)
  have X : nt_X cX8_one 3 RX8 (some .int) w A p s m args meth c := X
  have hg : g = g := rfl
  have h : nt_R (fNt_one x1 x2 g) (fun z => z = r) := ⟨_, hf, rfl⟩
  unfold fNt_one at h
  show nt_G p l e (nt_rm 5) s m args below meth c w A 0 0 (nt_Qi w A below args s r g) 3 0 [(0, .ref (nt_a w 0)), (1, .int x1), (2, .int x2)] [] g
  refine nt_aload_n X dX8_one_0 rfl 0 rfl ?_
  refine nt_get X 0 inX8 (nt_lX hw (Nat.le_of_ble_eq_true rfl)) (nt_e0 hw) rfl (j := 3) (by decide) wd_315 (v := .ref (nt_a w 14)) rfl dX8_one_1 ?_
  refine nt_iload_n X dX8_one_4 rfl 1 rfl ?_
  obtain ⟨r1, er1, h⟩ := nt_R_b1 h
  refine nt_cVNi X (As := [.int x1]) 14 (nt_lP hw nt_p14 0 (by decide)) (nt_eP hw nt_p14) rfl (cPp_has hw nt_p14 er1) wd_365 nt_nm18 wd_364 wd_1030 wd_13 hd_X0_has ⟨Nat.le_of_ble_eq_true rfl, Nat.le_of_ble_eq_true rfl⟩ ⟨Nat.le_refl 0, Nat.le_refl 0⟩ (Nat.le_of_ble_eq_true rfl) rfl dX8_one_5 ?_
  obtain ⟨ht, hf⟩ := nt_R_if h
  refine nt_if_ne X 14 dX8_one_8 (by decide) (fun q2 => ?_) (fun q2 => ?_)
  · have h := hf q2
    refine nt_iload_n X dX8_one_14 rfl 2 rfl ?_
    obtain ⟨ht, hf⟩ := nt_R_if h
    rcases Decidable.em (x2 = 0) with q15_0 | q15_0
    · have h := ht q15_0
      refine nt_tblIn X 48 dX8_one_15 (off := 33) (by rw [q15_0]; decide) (by rw [q15_0]; decide) (by rw [q15_0]; rfl) (by decide) ?_
      refine nt_aload_n X dX8_one_48 rfl 0 rfl ?_
      refine nt_get X 0 inX8 (nt_lX hw (Nat.le_of_ble_eq_true rfl)) (nt_e0 hw) rfl (j := 3) (by decide) wd_315 (v := .ref (nt_a w 14)) rfl dX8_one_49 ?_
      refine nt_getN X 14 inX0 (nt_lP hw nt_p14 0 (by decide)) (nt_eP hw nt_p14) rfl (j := 2) (by decide) nt_nf12 (v := .ref (nt_a w 15)) rfl dX8_one_52 ?_
      refine nt_iload_n X dX8_one_55 rfl 1 rfl ?_
      obtain ⟨q3, h⟩ := nt_R_gd h
      refine nt_iald X 15 0 (nt_lP hw nt_p14 1 (by decide)) (nt_eP1 hw nt_p14) (nt_tX hw) q3 dX8_one_56 ?_
      have h := nt_R_some h
      exact nt_iret X dX8_one_57 (nt_pe h hg)
    · have h := hf q15_0
      obtain ⟨ht, hf⟩ := nt_R_if h
      rcases Decidable.em (x2 = 1) with q15_1 | q15_1
      · have h := ht q15_1
        refine nt_tblIn X 58 dX8_one_15 (off := 43) (by rw [q15_1]; decide) (by rw [q15_1]; decide) (by rw [q15_1]; rfl) (by decide) ?_
        refine nt_aload_n X dX8_one_58 rfl 0 rfl ?_
        refine nt_get X 0 inX8 (nt_lX hw (Nat.le_of_ble_eq_true rfl)) (nt_e0 hw) rfl (j := 3) (by decide) wd_315 (v := .ref (nt_a w 14)) rfl dX8_one_59 ?_
        refine nt_getN X 14 inX0 (nt_lP hw nt_p14 0 (by decide)) (nt_eP hw nt_p14) rfl (j := 3) (by decide) nt_nf13 (v := .ref (nt_a w 16)) rfl dX8_one_62 ?_
        refine nt_iload_n X dX8_one_65 rfl 1 rfl ?_
        obtain ⟨q4, h⟩ := nt_R_gd h
        refine nt_iald X 16 0 (nt_lP hw nt_p14 2 (by decide)) (nt_eP2 hw nt_p14) (nt_tX hw) q4 dX8_one_66 ?_
        have h := nt_R_some h
        exact nt_iret X dX8_one_67 (nt_pe h hg)
      · have h := hf q15_1
        obtain ⟨ht, hf⟩ := nt_R_if h
        rcases Decidable.em (x2 = 2) with q15_2 | q15_2
        · have h := ht q15_2
          refine nt_tblIn X 68 dX8_one_15 (off := 53) (by rw [q15_2]; decide) (by rw [q15_2]; decide) (by rw [q15_2]; rfl) (by decide) ?_
          refine nt_aload_n X dX8_one_68 rfl 0 rfl ?_
          refine nt_get X 0 inX8 (nt_lX hw (Nat.le_of_ble_eq_true rfl)) (nt_e0 hw) rfl (j := 3) (by decide) wd_315 (v := .ref (nt_a w 14)) rfl dX8_one_69 ?_
          refine nt_getN X 14 inX0 (nt_lP hw nt_p14 0 (by decide)) (nt_eP hw nt_p14) rfl (j := 4) (by decide) nt_nf15 (v := .ref (nt_a w 17)) rfl dX8_one_72 ?_
          refine nt_iload_n X dX8_one_75 rfl 1 rfl ?_
          obtain ⟨q5, h⟩ := nt_R_gd h
          refine nt_iald X 17 0 (nt_lP hw nt_p14 3 (by decide)) (nt_eP3 hw nt_p14) (nt_tX hw) q5 dX8_one_76 ?_
          have h := nt_R_some h
          exact nt_iret X dX8_one_77 (nt_pe h hg)
        · have h := hf q15_2
          obtain ⟨ht, hf⟩ := nt_R_if h
          rcases Decidable.em (x2 = 3) with q15_3 | q15_3
          · have h := ht q15_3
            refine nt_tblIn X 78 dX8_one_15 (off := 63) (by rw [q15_3]; decide) (by rw [q15_3]; decide) (by rw [q15_3]; rfl) (by decide) ?_
            refine nt_aload_n X dX8_one_78 rfl 0 rfl ?_
            refine nt_get X 0 inX8 (nt_lX hw (Nat.le_of_ble_eq_true rfl)) (nt_e0 hw) rfl (j := 3) (by decide) wd_315 (v := .ref (nt_a w 14)) rfl dX8_one_79 ?_
            refine nt_getN X 14 inX0 (nt_lP hw nt_p14 0 (by decide)) (nt_eP hw nt_p14) rfl (j := 5) (by decide) nt_nf16 (v := .ref (nt_a w 18)) rfl dX8_one_82 ?_
            refine nt_iload_n X dX8_one_85 rfl 1 rfl ?_
            obtain ⟨q6, h⟩ := nt_R_gd h
            refine nt_iald X 18 0 (nt_lP hw nt_p14 4 (by decide)) (nt_eP4 hw nt_p14) (nt_tX hw) q6 dX8_one_86 ?_
            have h := nt_R_some h
            exact nt_iret X dX8_one_87 (nt_pe h hg)
          · have h := hf q15_3
            obtain ⟨ht, hf⟩ := nt_R_if h
            rcases Decidable.em (x2 = 4) with q15_4 | q15_4
            · have h := ht q15_4
              refine nt_tblIn X 88 dX8_one_15 (off := 73) (by rw [q15_4]; decide) (by rw [q15_4]; decide) (by rw [q15_4]; rfl) (by decide) ?_
              refine nt_aload_n X dX8_one_88 rfl 0 rfl ?_
              refine nt_get X 0 inX8 (nt_lX hw (Nat.le_of_ble_eq_true rfl)) (nt_e0 hw) rfl (j := 3) (by decide) wd_315 (v := .ref (nt_a w 14)) rfl dX8_one_89 ?_
              refine nt_iload_n X dX8_one_92 rfl 1 rfl ?_
              obtain ⟨r7, er7, h⟩ := nt_R_b1 h
              refine nt_cVNi X (As := [.int x1]) 14 (nt_lP hw nt_p14 0 (by decide)) (nt_eP hw nt_p14) rfl (cPp_knows hw nt_p14 er7) wd_394 nt_nm23 wd_393 wd_1035 wd_13 hd_X0_knows ⟨Nat.le_of_ble_eq_true rfl, Nat.le_of_ble_eq_true rfl⟩ ⟨Nat.le_refl 0, Nat.le_refl 0⟩ (Nat.le_of_ble_eq_true rfl) rfl dX8_one_93 ?_
              have h := nt_R_some h
              exact nt_iret X dX8_one_96 (nt_pe h hg)
            · have h := hf q15_4
              refine nt_tblOut X 97 dX8_one_15 (by have w0 := lv_neT q15_0 (a := 0) (by decide); have w1 := lv_neT q15_1 (a := 1) (by decide); have w2 := lv_neT q15_2 (a := 2) (by decide); have w3 := lv_neT q15_3 (a := 3) (by decide); have w4 := lv_neT q15_4 (a := 4) (by decide); omega) (by decide) ?_
              refine nt_bipush X dX8_one_97 nt_cb_m2 ?_
              have h := nt_R_some h
              exact nt_iret X dX8_one_99 (nt_pe h hg)
  · have h := ht q2
    refine nt_bipush X dX8_one_11 nt_cb_m2 ?_
    have h := nt_R_some h
    exact nt_iret X dX8_one_13 (nt_pe h hg)
def fNt_feed (x1 : Int32) (g : nt_T) : Option (Int32 × nt_T) :=
  nt_b1 (fNt_isBelow x1 (256 : Int32) g) fun r1 => (if r1 = 0 then
    (some ((-2 : Int32), g))
  else
    (nt_b2 (fRd_put x1 g) fun r3 g4 => some (r3, g4)))
set_option maxRecDepth 100000 in
set_option maxHeartbeats 4000000 in
theorem cNt_feed {l : Launch} {w : nt_w} (hw : nt_isX w) {x1 : Int32} {g : nt_T} {r : Int32} {g2 : nt_T} (hf : fNt_feed x1 g = some (r, g2)) : nt_Mi l w yX8_feed cX8_feed 2 (some .int) 3 [.ref (nt_a w 0), .int x1] g r g2 := by
  refine nt_Mi_of (by decide) (Nat.le_of_ble_eq_true rfl) (fun p e s m args below meth c A X => ?_)
  have X : nt_X cX8_feed 2 RX8 (some .int) w A p s m args meth c := X
  have h : nt_R (fNt_feed x1 g) (fun z => z = (r, g2)) := ⟨_, hf, rfl⟩
  unfold fNt_feed at h
  show nt_G p l e (nt_rm 3) s m args below meth c w A 0 0 (nt_Qi w A below args s r g2) 2 0 [(0, .ref (nt_a w 0)), (1, .int x1)] [] g
  refine nt_iload_n X dX8_feed_0 rfl 1 rfl ?_
  refine nt_sipush X dX8_feed_1 nt_cs_256 ?_
  obtain ⟨r1, er1, h⟩ := nt_R_b1 h
  refine nt_cSi X (As := [.int x1, .int (256 : Int32)]) (cNt_isBelow hw er1) wd_336 wd_334 wd_335 wd_1 hd_X8_isBelow ⟨Nat.le_of_ble_eq_true rfl, Nat.le_of_ble_eq_true rfl⟩ ⟨Nat.le_refl 0, Nat.le_refl 0⟩ (Nat.le_of_ble_eq_true rfl) rfl dX8_feed_4 ?_
  obtain ⟨ht, hf⟩ := nt_R_if h
  refine nt_if_eq X 21 dX8_feed_7 (by decide) (fun q2 => ?_) (fun q2 => ?_)
  · have h := ht q2
    refine nt_bipush X dX8_feed_21 nt_cb_m2 ?_
    have h := nt_R_some h
    exact nt_iret X dX8_feed_23 h
  · have h := hf q2
    refine nt_aload_n X dX8_feed_10 rfl 0 rfl ?_
    refine nt_get X 0 inX8 (nt_lX hw (Nat.le_of_ble_eq_true rfl)) (nt_e0 hw) rfl (j := 2) (by decide) wd_314 (v := .ref (nt_a w 10)) rfl dX8_feed_11 ?_
    refine nt_iload_n X dX8_feed_14 rfl 1 rfl ?_
    obtain ⟨r3, g4, er3, h⟩ := nt_R_b2 h
    refine nt_cVNi X (As := [.int x1]) 10 (nt_lX hw (Nat.le_of_ble_eq_true rfl)) (nt_e10 hw) rfl (cRd_put (nt_XD hw) er3) wd_126 nt_nm25 wd_125 wd_1010 wd_4 hd_X1_put ⟨Nat.le_of_ble_eq_true rfl, Nat.le_of_ble_eq_true rfl⟩ ⟨Nat.le_refl 0, Nat.le_refl 0⟩ (Nat.le_of_ble_eq_true rfl) rfl dX8_feed_15 ?_
    refine nt_goto X 23 dX8_feed_18 (by decide) ?_
    have h := nt_R_some h
    exact nt_iret X dX8_feed_23 h
def fNt_force (x1 : Int32) (g : nt_T) : Option (Int32 × nt_T) :=
  nt_b1 (fTx_has x1 g) fun r1 => (if r1 = 0 then
    (some ((-2 : Int32), g))
  else
    (nt_lt (g 14 9) fun v3 => nt_lt (nt_st g 14 9 x1) fun g4 => some (v3, g4)))
set_option maxRecDepth 100000 in
set_option maxHeartbeats 4000000 in
theorem cNt_force {l : Launch} {w : nt_w} (hw : nt_isX w) {x1 : Int32} {g : nt_T} {r : Int32} {g2 : nt_T} (hf : fNt_force x1 g = some (r, g2)) : nt_Mi l w yX8_force cX8_force 3 (some .int) 5 [.ref (nt_a w 0), .int x1] g r g2 := by
  refine nt_Mi_of (by decide) (Nat.le_of_ble_eq_true rfl) (fun p e s m args below meth c A X => ?_)
  have X : nt_X cX8_force 3 RX8 (some .int) w A p s m args meth c := X
  have h : nt_R (fNt_force x1 g) (fun z => z = (r, g2)) := ⟨_, hf, rfl⟩
  unfold fNt_force at h
  show nt_G p l e (nt_rm 5) s m args below meth c w A 0 0 (nt_Qi w A below args s r g2) 3 0 [(0, .ref (nt_a w 0)), (1, .int x1)] [] g
  refine nt_aload_n X dX8_force_0 rfl 0 rfl ?_
  refine nt_get X 0 inX8 (nt_lX hw (Nat.le_of_ble_eq_true rfl)) (nt_e0 hw) rfl (j := 1) (by decide) wd_313 (v := .ref (nt_a w 6)) rfl dX8_force_1 ?_
  refine nt_iload_n X dX8_force_4 rfl 1 rfl ?_
  obtain ⟨r1, er1, h⟩ := nt_R_b1 h
  refine nt_cVNi X (As := [.int x1]) 6 (nt_lX hw (Nat.le_of_ble_eq_true rfl)) (nt_e6 hw) rfl (cTx_has hw er1) wd_412 nt_nm28 wd_411 wd_1038 wd_3 hd_X7_has ⟨Nat.le_of_ble_eq_true rfl, Nat.le_of_ble_eq_true rfl⟩ ⟨Nat.le_refl 0, Nat.le_refl 0⟩ (Nat.le_of_ble_eq_true rfl) rfl dX8_force_5 ?_
  obtain ⟨ht, hf⟩ := nt_R_if h
  refine nt_if_ne X 14 dX8_force_8 (by decide) (fun q2 => ?_) (fun q2 => ?_)
  · have h := hf q2
    refine nt_aload_n X dX8_force_14 rfl 0 rfl ?_
    refine nt_get X 0 inX8 (nt_lX hw (Nat.le_of_ble_eq_true rfl)) (nt_e0 hw) rfl (j := 3) (by decide) wd_315 (v := .ref (nt_a w 14)) rfl dX8_force_15 ?_
    refine nt_getN X 14 inX0 (nt_lP hw nt_p14 0 (by decide)) (nt_eP hw nt_p14) rfl (j := 9) (by decide) nt_nf20 (v := .int (g 14 9)) rfl dX8_force_18 ?_
    obtain ⟨v3, ev3, h⟩ := nt_R_lt h
    refine nt_topi ev3 ?_
    refine nt_istore_n X [(2, .int v3), (0, .ref (nt_a w 0)), (1, .int x1)] dX8_force_21 rfl (by decide) rfl ?_
    refine nt_aload_n X dX8_force_22 rfl 1 rfl ?_
    refine nt_get X 0 inX8 (nt_lX hw (Nat.le_of_ble_eq_true rfl)) (nt_e0 hw) rfl (j := 3) (by decide) wd_315 (v := .ref (nt_a w 14)) rfl dX8_force_23 ?_
    refine nt_iload_n X dX8_force_26 rfl 2 rfl ?_
    refine nt_putN X 14 inX0 (nt_lP hw nt_p14 0 (by decide)) (nt_eP hw nt_p14) rfl (j := 9) (by decide) nt_nf20 tyX0 tyX0_ok nmX0 rfl (ty := .int) rfl rfl rfl (fun _ => Nat.le_of_ble_eq_true rfl) (fun _ => rfl) dX8_force_27 ?_
    obtain ⟨g4, eg4, h⟩ := nt_R_lt h
    refine nt_geq eg4 ?_
    refine nt_iload_n X dX8_force_30 rfl 0 rfl ?_
    have h := nt_R_some h
    exact nt_iret X dX8_force_31 h
  · have h := ht q2
    refine nt_bipush X dX8_force_11 nt_cb_m2 ?_
    have h := nt_R_some h
    exact nt_iret X dX8_force_13 h
def fNt_may (nr : Nat) (ln : Nat → Nat) (x1 : Int32) (g : nt_T) : Option (Int32 × nt_T) :=
  nt_b1 (fNt_isHouse x1 g) fun r1 => (if r1 = 0 then
    (some ((-2 : Int32), g))
  else
    (nt_b2 (fPp_tellableIn nr ln 14 x1 g) fun r3 g4 => some (r3, g4)))
set_option maxRecDepth 100000 in
set_option maxHeartbeats 4000000 in
theorem cNt_may {l : Launch} {w : nt_w} (hw : nt_isX w) {nr : Nat} {ln : Nat → Nat}  (hR : nt_isR w nr ln) {x1 : Int32} {g : nt_T} {r : Int32} {g2 : nt_T} (hf : fNt_may nr ln x1 g = some (r, g2)) : nt_Mi l w yX8_may cX8_may 2 (some .int) 11 [.ref (nt_a w 0), .int x1] g r g2 := by
  refine nt_Mi_of (by decide) (Nat.le_of_ble_eq_true rfl) (fun p e s m args below meth c A X => ?_)
  have X : nt_X cX8_may 2 RX8 (some .int) w A p s m args meth c := X
  have h : nt_R (fNt_may nr ln x1 g) (fun z => z = (r, g2)) := ⟨_, hf, rfl⟩
  unfold fNt_may at h
  show nt_G p l e (nt_rm 11) s m args below meth c w A 0 0 (nt_Qi w A below args s r g2) 2 0 [(0, .ref (nt_a w 0)), (1, .int x1)] [] g
  refine nt_iload_n X dX8_may_0 rfl 1 rfl ?_
  obtain ⟨r1, er1, h⟩ := nt_R_b1 h
  refine nt_cSi X (As := [.int x1]) (cNt_isHouse hw er1) wd_368 wd_366 wd_367 wd_1 hd_X8_isHouse ⟨Nat.le_of_ble_eq_true rfl, Nat.le_of_ble_eq_true rfl⟩ ⟨Nat.le_refl 0, Nat.le_refl 0⟩ (Nat.le_of_ble_eq_true rfl) rfl dX8_may_1 ?_
  obtain ⟨ht, hf⟩ := nt_R_if h
  refine nt_if_eq X 18 dX8_may_4 (by decide) (fun q2 => ?_) (fun q2 => ?_)
  · have h := ht q2
    refine nt_bipush X dX8_may_18 nt_cb_m2 ?_
    have h := nt_R_some h
    exact nt_iret X dX8_may_20 h
  · have h := hf q2
    refine nt_aload_n X dX8_may_7 rfl 0 rfl ?_
    refine nt_get X 0 inX8 (nt_lX hw (Nat.le_of_ble_eq_true rfl)) (nt_e0 hw) rfl (j := 3) (by decide) wd_315 (v := .ref (nt_a w 14)) rfl dX8_may_8 ?_
    refine nt_iload_n X dX8_may_11 rfl 1 rfl ?_
    obtain ⟨r3, g4, er3, h⟩ := nt_R_b2 h
    refine nt_cVNi X (As := [.int x1]) 14 (nt_lP hw nt_p14 0 (by decide)) (nt_eP hw nt_p14) rfl (cPp_tellableIn hw hR nt_p14 er3) wd_418 nt_nm30 wd_417 wd_1039 wd_13 hd_X0_tellableIn ⟨Nat.le_of_ble_eq_true rfl, Nat.le_of_ble_eq_true rfl⟩ ⟨Nat.le_refl 0, Nat.le_refl 0⟩ (Nat.le_of_ble_eq_true rfl) rfl dX8_may_12 ?_
    refine nt_goto X 20 dX8_may_15 (by decide) ?_
    have h := nt_R_some h
    exact nt_iret X dX8_may_20 h
def fNt_by (nr : Nat) (ln : Nat → Nat) (x1 : Int32) (x2 : Int32) (g : nt_T) : Option (Int32 × nt_T) :=
  nt_b1 (fNt_isHouse x1 g) fun r1 => (if r1 = 0 then
    (some ((-2 : Int32), g))
  else
    (nt_b1 (fSh_has x2 g) fun r3 => (if r3 = 0 then
    (some ((-2 : Int32), g))
  else
    (nt_b2 (fPp_byWhom nr ln 14 x1 x2 g) fun r5 g6 => some (r5, g6)))))
set_option maxRecDepth 100000 in
set_option maxHeartbeats 4000000 in
theorem cNt_by {l : Launch} {w : nt_w} (hw : nt_isX w) {nr : Nat} {ln : Nat → Nat}  (hR : nt_isR w nr ln) {x1 : Int32} {x2 : Int32} {g : nt_T} {r : Int32} {g2 : nt_T} (hf : fNt_by nr ln x1 x2 g = some (r, g2)) : nt_Mi l w yX8_by cX8_by 3 (some .int) 13 [.ref (nt_a w 0), .int x1, .int x2] g r g2 := by
  refine nt_Mi_of (by decide) (Nat.le_of_ble_eq_true rfl) (fun p e s m args below meth c A X => ?_)
  have X : nt_X cX8_by 3 RX8 (some .int) w A p s m args meth c := X
  have h : nt_R (fNt_by nr ln x1 x2 g) (fun z => z = (r, g2)) := ⟨_, hf, rfl⟩
  unfold fNt_by at h
  show nt_G p l e (nt_rm 13) s m args below meth c w A 0 0 (nt_Qi w A below args s r g2) 3 0 [(0, .ref (nt_a w 0)), (1, .int x1), (2, .int x2)] [] g
  refine nt_iload_n X dX8_by_0 rfl 1 rfl ?_
  obtain ⟨r1, er1, h⟩ := nt_R_b1 h
  refine nt_cSi X (As := [.int x1]) (cNt_isHouse hw er1) wd_368 wd_366 wd_367 wd_1 hd_X8_isHouse ⟨Nat.le_of_ble_eq_true rfl, Nat.le_of_ble_eq_true rfl⟩ ⟨Nat.le_refl 0, Nat.le_refl 0⟩ (Nat.le_of_ble_eq_true rfl) rfl dX8_by_1 ?_
  obtain ⟨ht, hf⟩ := nt_R_if h
  refine nt_if_eq X 30 dX8_by_4 (by decide) (fun q2 => ?_) (fun q2 => ?_)
  · have h := ht q2
    refine nt_bipush X dX8_by_30 nt_cb_m2 ?_
    have h := nt_R_some h
    exact nt_iret X dX8_by_32 h
  · have h := hf q2
    refine nt_aload_n X dX8_by_7 rfl 0 rfl ?_
    refine nt_get X 0 inX8 (nt_lX hw (Nat.le_of_ble_eq_true rfl)) (nt_e0 hw) rfl (j := 0) (by decide) wd_312 (v := .ref (nt_a w 1)) rfl dX8_by_8 ?_
    refine nt_iload_n X dX8_by_11 rfl 2 rfl ?_
    obtain ⟨r3, er3, h⟩ := nt_R_b1 h
    refine nt_cVNi X (As := [.int x2]) 1 (nt_lX hw (Nat.le_of_ble_eq_true rfl)) (nt_e1 hw) rfl (cSh_has hw er3) wd_344 nt_nm13 wd_343 wd_1025 wd_2 hd_X5_has ⟨Nat.le_of_ble_eq_true rfl, Nat.le_of_ble_eq_true rfl⟩ ⟨Nat.le_refl 0, Nat.le_refl 0⟩ (Nat.le_of_ble_eq_true rfl) rfl dX8_by_12 ?_
    obtain ⟨ht, hf⟩ := nt_R_if h
    refine nt_if_eq X 30 dX8_by_15 (by decide) (fun q4 => ?_) (fun q4 => ?_)
    · have h := ht q4
      refine nt_bipush X dX8_by_30 nt_cb_m2 ?_
      have h := nt_R_some h
      exact nt_iret X dX8_by_32 h
    · have h := hf q4
      refine nt_aload_n X dX8_by_18 rfl 0 rfl ?_
      refine nt_get X 0 inX8 (nt_lX hw (Nat.le_of_ble_eq_true rfl)) (nt_e0 hw) rfl (j := 3) (by decide) wd_315 (v := .ref (nt_a w 14)) rfl dX8_by_19 ?_
      refine nt_iload_n X dX8_by_22 rfl 1 rfl ?_
      refine nt_iload_n X dX8_by_23 rfl 2 rfl ?_
      obtain ⟨r5, g6, er5, h⟩ := nt_R_b2 h
      refine nt_cVNi X (As := [.int x1, .int x2]) 14 (nt_lP hw nt_p14 0 (by decide)) (nt_eP hw nt_p14) rfl (cPp_byWhom hw hR nt_p14 er5) wd_452 nt_nm35 wd_451 wd_1047 wd_13 hd_X0_byWhom ⟨Nat.le_of_ble_eq_true rfl, Nat.le_of_ble_eq_true rfl⟩ ⟨Nat.le_refl 0, Nat.le_refl 0⟩ (Nat.le_of_ble_eq_true rfl) rfl dX8_by_24 ?_
      refine nt_goto X 32 dX8_by_27 (by decide) ?_
      have h := nt_R_some h
      exact nt_iret X dX8_by_32 h
def fNt_worth (nr : Nat) (ln : Nat → Nat) (x1 : Int32) (x2 : Int32) (g : nt_T) : Option (Int64 × nt_T) :=
  nt_b1 (fNt_isHouse x1 g) fun r1 => (if r1 = 0 then
    (some ((-4611686018427387904 : Int64), g))
  else
    (nt_b1 (fSh_has x2 g) fun r3 => (if r3 = 0 then
    (some ((-4611686018427387904 : Int64), g))
  else
    (nt_b2 (fPp_worthOf nr ln 14 x1 x2 g) fun r5 g6 => some (r5, g6)))))
set_option maxRecDepth 100000 in
set_option maxHeartbeats 4000000 in
theorem cNt_worth {l : Launch} {w : nt_w} (hw : nt_isX w) {nr : Nat} {ln : Nat → Nat}  (hR : nt_isR w nr ln) {x1 : Int32} {x2 : Int32} {g : nt_T} {r : Int64} {g2 : nt_T} (hf : fNt_worth nr ln x1 x2 g = some (r, g2)) : nt_Ml l w yX8_worth cX8_worth 3 (some .long) 13 [.ref (nt_a w 0), .int x1, .int x2] g r g2 := by
  refine nt_Ml_of (by decide) (Nat.le_of_ble_eq_true rfl) (fun p e s m args below meth c A X => ?_)
  have X : nt_X cX8_worth 3 RX8 (some .long) w A p s m args meth c := X
  have h : nt_R (fNt_worth nr ln x1 x2 g) (fun z => z = (r, g2)) := ⟨_, hf, rfl⟩
  unfold fNt_worth at h
  show nt_G p l e (nt_rm 13) s m args below meth c w A 0 0 (nt_Ql w A below args s r g2) 3 0 [(0, .ref (nt_a w 0)), (1, .int x1), (2, .int x2)] [] g
  refine nt_iload_n X dX8_worth_0 rfl 1 rfl ?_
  obtain ⟨r1, er1, h⟩ := nt_R_b1 h
  refine nt_cSi X (As := [.int x1]) (cNt_isHouse hw er1) wd_368 wd_366 wd_367 wd_1 hd_X8_isHouse ⟨Nat.le_of_ble_eq_true rfl, Nat.le_of_ble_eq_true rfl⟩ ⟨Nat.le_refl 0, Nat.le_refl 0⟩ (Nat.le_of_ble_eq_true rfl) rfl dX8_worth_1 ?_
  obtain ⟨ht, hf⟩ := nt_R_if h
  refine nt_if_eq X 30 dX8_worth_4 (by decide) (fun q2 => ?_) (fun q2 => ?_)
  · have h := ht q2
    refine nt_ldc2 X wd_471 dX8_worth_30 ?_
    have h := nt_R_some h
    exact nt_lret X dX8_worth_33 h
  · have h := hf q2
    refine nt_aload_n X dX8_worth_7 rfl 0 rfl ?_
    refine nt_get X 0 inX8 (nt_lX hw (Nat.le_of_ble_eq_true rfl)) (nt_e0 hw) rfl (j := 0) (by decide) wd_312 (v := .ref (nt_a w 1)) rfl dX8_worth_8 ?_
    refine nt_iload_n X dX8_worth_11 rfl 2 rfl ?_
    obtain ⟨r3, er3, h⟩ := nt_R_b1 h
    refine nt_cVNi X (As := [.int x2]) 1 (nt_lX hw (Nat.le_of_ble_eq_true rfl)) (nt_e1 hw) rfl (cSh_has hw er3) wd_344 nt_nm13 wd_343 wd_1025 wd_2 hd_X5_has ⟨Nat.le_of_ble_eq_true rfl, Nat.le_of_ble_eq_true rfl⟩ ⟨Nat.le_refl 0, Nat.le_refl 0⟩ (Nat.le_of_ble_eq_true rfl) rfl dX8_worth_12 ?_
    obtain ⟨ht, hf⟩ := nt_R_if h
    refine nt_if_eq X 30 dX8_worth_15 (by decide) (fun q4 => ?_) (fun q4 => ?_)
    · have h := ht q4
      refine nt_ldc2 X wd_471 dX8_worth_30 ?_
      have h := nt_R_some h
      exact nt_lret X dX8_worth_33 h
    · have h := hf q4
      refine nt_aload_n X dX8_worth_18 rfl 0 rfl ?_
      refine nt_get X 0 inX8 (nt_lX hw (Nat.le_of_ble_eq_true rfl)) (nt_e0 hw) rfl (j := 3) (by decide) wd_315 (v := .ref (nt_a w 14)) rfl dX8_worth_19 ?_
      refine nt_iload_n X dX8_worth_22 rfl 1 rfl ?_
      refine nt_iload_n X dX8_worth_23 rfl 2 rfl ?_
      obtain ⟨r5, g6, er5, h⟩ := nt_R_b2 h
      refine nt_cVNl X (As := [.int x1, .int x2]) 14 (nt_lP hw nt_p14 0 (by decide)) (nt_eP hw nt_p14) rfl (cPp_worthOf hw hR nt_p14 er5) wd_461 nt_nm36 wd_460 wd_1049 wd_13 hd_X0_worthOf ⟨Nat.le_of_ble_eq_true rfl, Nat.le_of_ble_eq_true rfl⟩ ⟨Nat.le_refl 0, Nat.le_refl 0⟩ (Nat.le_of_ble_eq_true rfl) rfl dX8_worth_24 ?_
      refine nt_goto X 33 dX8_worth_27 (by decide) ?_
      have h := nt_R_some h
      exact nt_lret X dX8_worth_33 h
def fNt_most (nr : Nat) (ln : Nat → Nat) (x1 : Int32) (x2 : Int32) (g : nt_T) : Option (Int64 × nt_T) :=
  nt_b1 (fNt_isHouse x1 g) fun r1 => (if r1 = 0 then
    (some ((-4611686018427387904 : Int64), g))
  else
    (nt_b1 (fNt_isBelow x2 (2 : Int32) g) fun r3 => (if r3 = 0 then
    (some ((-4611686018427387904 : Int64), g))
  else
    (nt_b2 (fPp_bestOf nr ln 14 x1 g) fun r5 g6 => (if r5 = (-1 : Int32) then
    (some ((-4611686018427387904 : Int64), g6))
  else
    ((if x2 = 0 then
    (some ((Int32.toInt64 r5), g6))
  else
    (nt_b2 (fPp_worthOf nr ln 14 x1 r5 g6) fun r9 g10 => some (r9, g10)))))))))
set_option maxRecDepth 100000 in
set_option maxHeartbeats 4000000 in
theorem cNt_most {l : Launch} {w : nt_w} (hw : nt_isX w) {nr : Nat} {ln : Nat → Nat}  (hR : nt_isR w nr ln) {x1 : Int32} {x2 : Int32} {g : nt_T} {r : Int64} {g2 : nt_T} (hf : fNt_most nr ln x1 x2 g = some (r, g2)) : nt_Ml l w yX8_most cX8_most 4 (some .long) 13 [.ref (nt_a w 0), .int x1, .int x2] g r g2 := by
  refine nt_Ml_of (by decide) (Nat.le_of_ble_eq_true rfl) (fun p e s m args below meth c A X => ?_)
  have X : nt_X cX8_most 4 RX8 (some .long) w A p s m args meth c := X
  have h : nt_R (fNt_most nr ln x1 x2 g) (fun z => z = (r, g2)) := ⟨_, hf, rfl⟩
  unfold fNt_most at h
  show nt_G p l e (nt_rm 13) s m args below meth c w A 0 0 (nt_Ql w A below args s r g2) 4 0 [(0, .ref (nt_a w 0)), (1, .int x1), (2, .int x2)] [] g
  refine nt_iload_n X dX8_most_0 rfl 1 rfl ?_
  obtain ⟨r1, er1, h⟩ := nt_R_b1 h
  refine nt_cSi X (As := [.int x1]) (cNt_isHouse hw er1) wd_368 wd_366 wd_367 wd_1 hd_X8_isHouse ⟨Nat.le_of_ble_eq_true rfl, Nat.le_of_ble_eq_true rfl⟩ ⟨Nat.le_refl 0, Nat.le_refl 0⟩ (Nat.le_of_ble_eq_true rfl) rfl dX8_most_1 ?_
  obtain ⟨ht, hf⟩ := nt_R_if h
  refine nt_if_eq X 15 dX8_most_4 (by decide) (fun q2 => ?_) (fun q2 => ?_)
  · have h := ht q2
    refine nt_ldc2 X wd_471 dX8_most_15 ?_
    have h := nt_R_some h
    exact nt_lret X dX8_most_18 h
  · have h := hf q2
    refine nt_iload_n X dX8_most_7 rfl 2 rfl ?_
    refine nt_iconst X dX8_most_8 nt_ci_2 ?_
    obtain ⟨r3, er3, h⟩ := nt_R_b1 h
    refine nt_cSi X (As := [.int x2, .int (2 : Int32)]) (cNt_isBelow hw er3) wd_336 wd_334 wd_335 wd_1 hd_X8_isBelow ⟨Nat.le_of_ble_eq_true rfl, Nat.le_of_ble_eq_true rfl⟩ ⟨Nat.le_refl 0, Nat.le_refl 0⟩ (Nat.le_of_ble_eq_true rfl) rfl dX8_most_9 ?_
    obtain ⟨ht, hf⟩ := nt_R_if h
    refine nt_if_ne X 19 dX8_most_12 (by decide) (fun q4 => ?_) (fun q4 => ?_)
    · have h := hf q4
      refine nt_aload_n X dX8_most_19 rfl 0 rfl ?_
      refine nt_get X 0 inX8 (nt_lX hw (Nat.le_of_ble_eq_true rfl)) (nt_e0 hw) rfl (j := 3) (by decide) wd_315 (v := .ref (nt_a w 14)) rfl dX8_most_20 ?_
      refine nt_iload_n X dX8_most_23 rfl 1 rfl ?_
      obtain ⟨r5, g6, er5, h⟩ := nt_R_b2 h
      refine nt_cVNi X (As := [.int x1]) 14 (nt_lP hw nt_p14 0 (by decide)) (nt_eP hw nt_p14) rfl (cPp_bestOf hw hR nt_p14 er5) wd_477 nt_nm37 wd_476 wd_1051 wd_13 hd_X0_bestOf ⟨Nat.le_of_ble_eq_true rfl, Nat.le_of_ble_eq_true rfl⟩ ⟨Nat.le_refl 0, Nat.le_refl 0⟩ (Nat.le_of_ble_eq_true rfl) rfl dX8_most_24 ?_
      refine nt_istore_n X [(3, .int r5), (0, .ref (nt_a w 0)), (1, .int x1), (2, .int x2)] dX8_most_27 rfl (by decide) rfl ?_
      refine nt_iload_n X dX8_most_28 rfl 0 rfl ?_
      refine nt_iconst X dX8_most_29 nt_ci_m1 ?_
      obtain ⟨ht, hf⟩ := nt_R_if h
      refine nt_icmp_ne X 37 dX8_most_30 (by decide) (fun q7 => ?_) (fun q7 => ?_)
      · have h := hf q7
        refine nt_iload_n X dX8_most_37 rfl 3 rfl ?_
        obtain ⟨ht, hf⟩ := nt_R_if h
        refine nt_if_ne X 46 dX8_most_38 (by decide) (fun q8 => ?_) (fun q8 => ?_)
        · have h := hf q8
          refine nt_aload_n X dX8_most_46 rfl 1 rfl ?_
          refine nt_get X 0 inX8 (nt_lX hw (Nat.le_of_ble_eq_true rfl)) (nt_e0 hw) rfl (j := 3) (by decide) wd_315 (v := .ref (nt_a w 14)) rfl dX8_most_47 ?_
          refine nt_iload_n X dX8_most_50 rfl 2 rfl ?_
          refine nt_iload_n X dX8_most_51 rfl 0 rfl ?_
          obtain ⟨r9, g10, er9, h⟩ := nt_R_b2 h
          refine nt_cVNl X (As := [.int x1, .int r5]) 14 (nt_lP hw nt_p14 0 (by decide)) (nt_eP hw nt_p14) rfl (cPp_worthOf hw hR nt_p14 er9) wd_461 nt_nm36 wd_460 wd_1049 wd_13 hd_X0_worthOf ⟨Nat.le_of_ble_eq_true rfl, Nat.le_of_ble_eq_true rfl⟩ ⟨Nat.le_refl 0, Nat.le_refl 0⟩ (Nat.le_of_ble_eq_true rfl) rfl dX8_most_52 ?_
          have h := nt_R_some h
          exact nt_lret X dX8_most_55 h
        · have h := ht q8
          refine nt_iload_n X dX8_most_41 rfl 0 rfl ?_
          refine nt_i2l X dX8_most_42 rfl ?_
          refine nt_goto X 55 dX8_most_43 (by decide) ?_
          have h := nt_R_some h
          exact nt_lret X dX8_most_55 h
      · have h := ht q7
        refine nt_ldc2 X wd_471 dX8_most_33 ?_
        have h := nt_R_some h
        exact nt_lret X dX8_most_36 h
    · have h := ht q4
      refine nt_ldc2 X wd_471 dX8_most_15 ?_
      have h := nt_R_some h
      exact nt_lret X dX8_most_18 h
def fNt_tell (nr : Nat) (ln : Nat → Nat) (x1 : Int32) (x2 : Int32) (g : nt_T) : Option (Int32 × nt_T) :=
  nt_b1 (fNt_isHouse x1 g) fun r1 => (if r1 = 0 then
    (some ((-2 : Int32), g))
  else
    (nt_b1 (fSh_has x2 g) fun r3 => (if r3 = 0 then
    (some ((-2 : Int32), g))
  else
    (nt_b2 (fPp_spend nr ln 14 x1 x2 g) fun r5 g6 => some (r5, g6)))))
set_option maxRecDepth 100000 in
set_option maxHeartbeats 4000000 in
theorem cNt_tell {l : Launch} {w : nt_w} (hw : nt_isX w) {nr : Nat} {ln : Nat → Nat}  (hR : nt_isR w nr ln) {x1 : Int32} {x2 : Int32} {g : nt_T} {r : Int32} {g2 : nt_T} (hf : fNt_tell nr ln x1 x2 g = some (r, g2)) : nt_Mi l w yX8_tell cX8_tell 3 (some .int) 13 [.ref (nt_a w 0), .int x1, .int x2] g r g2 := by
  refine nt_Mi_of (by decide) (Nat.le_of_ble_eq_true rfl) (fun p e s m args below meth c A X => ?_)
  have X : nt_X cX8_tell 3 RX8 (some .int) w A p s m args meth c := X
  have h : nt_R (fNt_tell nr ln x1 x2 g) (fun z => z = (r, g2)) := ⟨_, hf, rfl⟩
  unfold fNt_tell at h
  show nt_G p l e (nt_rm 13) s m args below meth c w A 0 0 (nt_Qi w A below args s r g2) 3 0 [(0, .ref (nt_a w 0)), (1, .int x1), (2, .int x2)] [] g
  refine nt_iload_n X dX8_tell_0 rfl 1 rfl ?_
  obtain ⟨r1, er1, h⟩ := nt_R_b1 h
  refine nt_cSi X (As := [.int x1]) (cNt_isHouse hw er1) wd_368 wd_366 wd_367 wd_1 hd_X8_isHouse ⟨Nat.le_of_ble_eq_true rfl, Nat.le_of_ble_eq_true rfl⟩ ⟨Nat.le_refl 0, Nat.le_refl 0⟩ (Nat.le_of_ble_eq_true rfl) rfl dX8_tell_1 ?_
  obtain ⟨ht, hf⟩ := nt_R_if h
  refine nt_if_eq X 30 dX8_tell_4 (by decide) (fun q2 => ?_) (fun q2 => ?_)
  · have h := ht q2
    refine nt_bipush X dX8_tell_30 nt_cb_m2 ?_
    have h := nt_R_some h
    exact nt_iret X dX8_tell_32 h
  · have h := hf q2
    refine nt_aload_n X dX8_tell_7 rfl 0 rfl ?_
    refine nt_get X 0 inX8 (nt_lX hw (Nat.le_of_ble_eq_true rfl)) (nt_e0 hw) rfl (j := 0) (by decide) wd_312 (v := .ref (nt_a w 1)) rfl dX8_tell_8 ?_
    refine nt_iload_n X dX8_tell_11 rfl 2 rfl ?_
    obtain ⟨r3, er3, h⟩ := nt_R_b1 h
    refine nt_cVNi X (As := [.int x2]) 1 (nt_lX hw (Nat.le_of_ble_eq_true rfl)) (nt_e1 hw) rfl (cSh_has hw er3) wd_344 nt_nm13 wd_343 wd_1025 wd_2 hd_X5_has ⟨Nat.le_of_ble_eq_true rfl, Nat.le_of_ble_eq_true rfl⟩ ⟨Nat.le_refl 0, Nat.le_refl 0⟩ (Nat.le_of_ble_eq_true rfl) rfl dX8_tell_12 ?_
    obtain ⟨ht, hf⟩ := nt_R_if h
    refine nt_if_eq X 30 dX8_tell_15 (by decide) (fun q4 => ?_) (fun q4 => ?_)
    · have h := ht q4
      refine nt_bipush X dX8_tell_30 nt_cb_m2 ?_
      have h := nt_R_some h
      exact nt_iret X dX8_tell_32 h
    · have h := hf q4
      refine nt_aload_n X dX8_tell_18 rfl 0 rfl ?_
      refine nt_get X 0 inX8 (nt_lX hw (Nat.le_of_ble_eq_true rfl)) (nt_e0 hw) rfl (j := 3) (by decide) wd_315 (v := .ref (nt_a w 14)) rfl dX8_tell_19 ?_
      refine nt_iload_n X dX8_tell_22 rfl 1 rfl ?_
      refine nt_iload_n X dX8_tell_23 rfl 2 rfl ?_
      obtain ⟨r5, g6, er5, h⟩ := nt_R_b2 h
      refine nt_cVNi X (As := [.int x1, .int x2]) 14 (nt_lP hw nt_p14 0 (by decide)) (nt_eP hw nt_p14) rfl (cPp_spend hw hR nt_p14 er5) wd_483 nt_nm38 wd_482 wd_1052 wd_13 hd_X0_spend ⟨Nat.le_of_ble_eq_true rfl, Nat.le_of_ble_eq_true rfl⟩ ⟨Nat.le_refl 0, Nat.le_refl 0⟩ (Nat.le_of_ble_eq_true rfl) rfl dX8_tell_24 ?_
      refine nt_goto X 32 dX8_tell_27 (by decide) ?_
      have h := nt_R_some h
      exact nt_iret X dX8_tell_32 h
def fNt_pass (g : nt_T) : Option (Int32 × nt_T) :=
  nt_b1 (fPp_sleep 14 g) fun g1 => some ((g1 14 8), g1)
set_option maxRecDepth 100000 in
set_option maxHeartbeats 4000000 in
theorem cNt_pass {l : Launch} {w : nt_w} (hw : nt_isX w) {g : nt_T} {r : Int32} {g2 : nt_T} (hf : fNt_pass g = some (r, g2)) : nt_Mi l w yX8_pass cX8_pass 1 (some .int) 7 [.ref (nt_a w 0)] g r g2 := by
  refine nt_Mi_of (by decide) (Nat.le_of_ble_eq_true rfl) (fun p e s m args below meth c A X => ?_)
  have X : nt_X cX8_pass 1 RX8 (some .int) w A p s m args meth c := X
  have h : nt_R (fNt_pass g) (fun z => z = (r, g2)) := ⟨_, hf, rfl⟩
  unfold fNt_pass at h
  show nt_G p l e (nt_rm 7) s m args below meth c w A 0 0 (nt_Qi w A below args s r g2) 1 0 [(0, .ref (nt_a w 0))] [] g
  refine nt_aload_n X dX8_pass_0 rfl 0 rfl ?_
  refine nt_get X 0 inX8 (nt_lX hw (Nat.le_of_ble_eq_true rfl)) (nt_e0 hw) rfl (j := 3) (by decide) wd_315 (v := .ref (nt_a w 14)) rfl dX8_pass_1 ?_
  obtain ⟨g1, eg1, h⟩ := nt_R_b1 h
  refine nt_cVNv X (As := []) 14 (nt_lP hw nt_p14 0 (by decide)) (nt_eP hw nt_p14) rfl (cPp_sleep hw nt_p14 eg1) wd_490 nt_nm39 wd_489 wd_1053 wd_13 hd_X0_sleep ⟨Nat.le_of_ble_eq_true rfl, Nat.le_of_ble_eq_true rfl⟩ ⟨Nat.le_refl 0, Nat.le_refl 0⟩ (Nat.le_of_ble_eq_true rfl) rfl dX8_pass_4 ?_
  refine nt_aload_n X dX8_pass_7 rfl 0 rfl ?_
  refine nt_get X 0 inX8 (nt_lX hw (Nat.le_of_ble_eq_true rfl)) (nt_e0 hw) rfl (j := 3) (by decide) wd_315 (v := .ref (nt_a w 14)) rfl dX8_pass_8 ?_
  refine nt_getN X 14 inX0 (nt_lP hw nt_p14 0 (by decide)) (nt_eP hw nt_p14) rfl (j := 8) (by decide) nt_nf19 (v := .int (g1 14 8)) rfl dX8_pass_11 ?_
  have h := nt_R_some h
  exact nt_iret X dX8_pass_14 h
def bNt_canTellAll_13 (nr : Nat) (ln : Nat → Nat) (x1 : Int32) (x2 : Int32) (x3 : Int32) (g : nt_T) : Option ((Int32 × nt_T) ⊕ ((nt_T) ⊕ (nt_T))) :=
  (if (g 1 4) ≤ x3 then
    (some (.inr (.inr g)))
  else
    ((if ((x2 >>> (x3 &&& 31)) &&& (1 : Int32)) = (1 : Int32) then
    (nt_b2 (fPp_spend nr ln 21 x1 x3 g) fun r5 g6 => (if r5 = (-3 : Int32) then
    (some (.inr (.inl g6)))
  else
    (nt_lt (x3 + (1 : Int32)) fun v8 => some (.inl (v8, g6)))))
  else
    (nt_lt (x3 + (1 : Int32)) fun v4 => some (.inl (v4, g))))))
set_option maxRecDepth 100000 in
set_option maxHeartbeats 4000000 in
theorem tbNt_canTellAll_13 {p : Program} {l : Launch} {e : Env} {s : State} {m : MethodId} {args : Array Value} {below : List Frame} {meth : Method} {c : Code} {w : nt_w} {A : Nat → Prop} {nr : Nat} {ln : Nat → Nat} (hw : nt_isX w)  (hR : nt_isR w nr ln) {Q : State → Prop} (X : nt_X cX8_canTellAll 4 RX8 (some .boolean) w A p s m args meth c) (x1 : Int32) (x2 : Int32)  {Qx : ((nt_T) ⊕ (nt_T)) → Prop} (hE0 : ∀ (gy : nt_T), Qx (.inl gy) → nt_G p l e (nt_rm 13) s m args below meth c w A 0 0 Q 4 47 [(0, .ref (nt_a w 0)), (1, .int x1), (2, .int x2)] [] gy) (hE1 : ∀ (gy : nt_T), Qx (.inr gy) → nt_G p l e (nt_rm 13) s m args below meth c w A 0 0 Q 4 55 [(0, .ref (nt_a w 0)), (1, .int x1), (2, .int x2)] [] gy) : ∀ (n : Nat) (x3 : Int32) (g : nt_T), nt_R (nt_it (fun z => bNt_canTellAll_13 nr ln x1 x2 z.1 z.2) n (x3, g)) Qx → nt_G p l e (nt_rm 13) s m args below meth c w A 0 0 Q 4 13 [(0, .ref (nt_a w 0)), (1, .int x1), (2, .int x2), (3, .int x3)] [] g := by
  intro n
  induction n with
  | zero =>
    intro x3 g h
    exact nt_R_none h
  | succ n ih =>
    intro x3 g h
    have h : nt_R (bNt_canTellAll_13 nr ln x1 x2 x3 g) (nt_Qz (fun z => bNt_canTellAll_13 nr ln x1 x2 z.1 z.2) n Qx) := nt_R_it h
    have hI : ∀ (y3 : Int32) (gy : nt_T), nt_Qz (fun z => bNt_canTellAll_13 nr ln x1 x2 z.1 z.2) n Qx (.inl (y3, gy)) → nt_G p l e (nt_rm 13) s m args below meth c w A 0 0 Q 4 13 [(0, .ref (nt_a w 0)), (1, .int x1), (2, .int x2), (3, .int y3)] [] gy := fun y3 gy q => ih y3 gy q
    have hE0 : ∀ (gy : nt_T), nt_Qz (fun z => bNt_canTellAll_13 nr ln x1 x2 z.1 z.2) n Qx (.inr (.inl gy)) → nt_G p l e (nt_rm 13) s m args below meth c w A 0 0 Q 4 47 [(0, .ref (nt_a w 0)), (1, .int x1), (2, .int x2)] [] gy := hE0
    have hE1 : ∀ (gy : nt_T), nt_Qz (fun z => bNt_canTellAll_13 nr ln x1 x2 z.1 z.2) n Qx (.inr (.inr gy)) → nt_G p l e (nt_rm 13) s m args below meth c w A 0 0 Q 4 55 [(0, .ref (nt_a w 0)), (1, .int x1), (2, .int x2)] [] gy := hE1
    generalize nt_Qz (fun z => bNt_canTellAll_13 nr ln x1 x2 z.1 z.2) n Qx = Qz at h hI hE0 hE1
    unfold bNt_canTellAll_13 at h
    refine nt_iload_n X dX8_canTellAll_13 rfl 3 rfl ?_
    refine nt_aload_n X dX8_canTellAll_14 rfl 0 rfl ?_
    refine nt_get X 0 inX8 (nt_lX hw (Nat.le_of_ble_eq_true rfl)) (nt_e0 hw) rfl (j := 0) (by decide) wd_312 (v := .ref (nt_a w 1)) rfl dX8_canTellAll_15 ?_
    refine nt_getN X 1 inX5 (nt_lX hw (Nat.le_of_ble_eq_true rfl)) (nt_e1 hw) rfl (j := 4) (by decide) nt_nf6 (v := .int (g 1 4)) rfl dX8_canTellAll_18 ?_
    obtain ⟨ht, hf⟩ := nt_R_if h
    refine nt_icmp_ge X 55 dX8_canTellAll_21 (by decide) (fun q2 => ?_) (fun q2 => ?_)
    · have h := ht q2
      refine nt_sub [0, 1, 2] rfl ?_
      have h := nt_R_some h
      exact hE1 g h
    · have h := hf q2
      refine nt_iload_n X dX8_canTellAll_24 rfl 2 rfl ?_
      refine nt_iload_n X dX8_canTellAll_25 rfl 3 rfl ?_
      refine nt_ishr X dX8_canTellAll_26 ?_
      refine nt_iconst X dX8_canTellAll_27 nt_ci_1 ?_
      refine nt_iand X dX8_canTellAll_28 ?_
      refine nt_iconst X dX8_canTellAll_29 nt_ci_1 ?_
      obtain ⟨ht, hf⟩ := nt_R_if h
      refine nt_icmp_ne X 49 dX8_canTellAll_30 (by decide) (fun q3 => ?_) (fun q3 => ?_)
      · have h := hf q3
        obtain ⟨v4, ev4, h⟩ := nt_R_lt h
        refine nt_iinc X v4 [(3, .int v4), (0, .ref (nt_a w 0)), (1, .int x1), (2, .int x2)] dX8_canTellAll_49 3 rfl (by rw [nt_ci_1]; exact ev4) (by decide) rfl ?_
        refine nt_goto X 13 dX8_canTellAll_52 (by decide) ?_
        refine nt_sub [1, 2, 3, 0] rfl ?_
        have h := nt_R_some h
        exact hI v4 g h
      · have h := ht q3
        refine nt_aload_n X dX8_canTellAll_33 rfl 0 rfl ?_
        refine nt_get X 0 inX8 (nt_lX hw (Nat.le_of_ble_eq_true rfl)) (nt_e0 hw) rfl (j := 4) (by decide) wd_316 (v := .ref (nt_a w 21)) rfl dX8_canTellAll_34 ?_
        refine nt_iload_n X dX8_canTellAll_37 rfl 1 rfl ?_
        refine nt_iload_n X dX8_canTellAll_38 rfl 3 rfl ?_
        obtain ⟨r5, g6, er5, h⟩ := nt_R_b2 h
        refine nt_cVNi X (As := [.int x1, .int x3]) 21 (nt_lP hw nt_p21 0 (by decide)) (nt_eP hw nt_p21) rfl (cPp_spend hw hR nt_p21 er5) wd_483 nt_nm38 wd_482 wd_1052 wd_13 hd_X0_spend ⟨Nat.le_of_ble_eq_true rfl, Nat.le_of_ble_eq_true rfl⟩ ⟨Nat.le_refl 0, Nat.le_refl 0⟩ (Nat.le_of_ble_eq_true rfl) rfl dX8_canTellAll_39 ?_
        refine nt_bipush X dX8_canTellAll_42 nt_cb_m3 ?_
        obtain ⟨ht, hf⟩ := nt_R_if h
        refine nt_icmp_ne X 49 dX8_canTellAll_44 (by decide) (fun q7 => ?_) (fun q7 => ?_)
        · have h := hf q7
          obtain ⟨v8, ev8, h⟩ := nt_R_lt h
          refine nt_iinc X v8 [(3, .int v8), (0, .ref (nt_a w 0)), (1, .int x1), (2, .int x2)] dX8_canTellAll_49 3 rfl (by rw [nt_ci_1]; exact ev8) (by decide) rfl ?_
          refine nt_goto X 13 dX8_canTellAll_52 (by decide) ?_
          refine nt_sub [1, 2, 3, 0] rfl ?_
          have h := nt_R_some h
          exact hI v8 g6 h
        · have h := ht q7
          refine nt_sub [0, 1, 2] rfl ?_
          have h := nt_R_some h
          exact hE0 g6 h
def fNt_canTellAll (nr : Nat) (ln : Nat → Nat) (x1 : Int32) (x2 : Int32) (g : nt_T) : Option (Int32 × nt_T) :=
  nt_b1 (fPp_takeAll 21 14 g) fun g1 => (nt_b1 (nt_it (fun z => bNt_canTellAll_13 nr ln x1 x2 z.1 z.2) nt_fu ((0 : Int32), g1)) fun z11 => match z11 with
  | (.inl g9) => some ((0 : Int32), g9)
  | .inr (g10) => some ((1 : Int32), g10))
set_option maxRecDepth 100000 in
set_option maxHeartbeats 4000000 in
theorem cNt_canTellAll {l : Launch} {w : nt_w} (hw : nt_isX w) {nr : Nat} {ln : Nat → Nat}  (hR : nt_isR w nr ln) {x1 : Int32} {x2 : Int32} {g : nt_T} {r : Int32} {g2 : nt_T} (hf : fNt_canTellAll nr ln x1 x2 g = some (r, g2)) : nt_Mi l w yX8_canTellAll cX8_canTellAll 4 (some .boolean) 13 [.ref (nt_a w 0), .int x1, .int x2] g r g2 := by
  refine nt_Mi_of (by decide) (Nat.le_of_ble_eq_true rfl) (fun p e s m args below meth c A X => ?_)
  have X : nt_X cX8_canTellAll 4 RX8 (some .boolean) w A p s m args meth c := X
  have h : nt_R (fNt_canTellAll nr ln x1 x2 g) (fun z => z = (r, g2)) := ⟨_, hf, rfl⟩
  unfold fNt_canTellAll at h
  show nt_G p l e (nt_rm 13) s m args below meth c w A 0 0 (nt_Qi w A below args s r g2) 4 0 [(0, .ref (nt_a w 0)), (1, .int x1), (2, .int x2)] [] g
  refine nt_aload_n X dX8_canTellAll_0 rfl 0 rfl ?_
  refine nt_get X 0 inX8 (nt_lX hw (Nat.le_of_ble_eq_true rfl)) (nt_e0 hw) rfl (j := 4) (by decide) wd_316 (v := .ref (nt_a w 21)) rfl dX8_canTellAll_1 ?_
  refine nt_aload_n X dX8_canTellAll_4 rfl 0 rfl ?_
  refine nt_get X 0 inX8 (nt_lX hw (Nat.le_of_ble_eq_true rfl)) (nt_e0 hw) rfl (j := 3) (by decide) wd_315 (v := .ref (nt_a w 14)) rfl dX8_canTellAll_5 ?_
  obtain ⟨g1, eg1, h⟩ := nt_R_b1 h
  refine nt_cVNv X (As := [.ref (nt_a w 14)]) 21 (nt_lP hw nt_p21 0 (by decide)) (nt_eP hw nt_p21) rfl (cPp_takeAll hw nt_p21 nt_p14 eg1) wd_503 nt_nm42 wd_502 wd_1056 wd_13 hd_X0_takeAll ⟨Nat.le_of_ble_eq_true rfl, Nat.le_of_ble_eq_true rfl⟩ ⟨Nat.le_refl 0, Nat.le_refl 0⟩ (Nat.le_of_ble_eq_true rfl) rfl dX8_canTellAll_8 ?_
  refine nt_iconst X dX8_canTellAll_11 nt_ci_0 ?_
  refine nt_istore_n X [(3, .int (0 : Int32)), (0, .ref (nt_a w 0)), (1, .int x1), (2, .int x2)] dX8_canTellAll_12 rfl (by decide) rfl ?_
  obtain ⟨z11, hz11, h⟩ := nt_R_b1 h
  refine nt_sub [1, 2, 3, 0] rfl ?_
  refine tbNt_canTellAll_13 hw  hR X x1 x2 (Qx := fun z => z = z11) (fun g9 hq => ?_) (fun g10 hq => ?_) nt_fu (0 : Int32) g1 ⟨_, hz11, rfl⟩
  · subst hq
    refine nt_iconst X dX8_canTellAll_47 nt_ci_0 ?_
    have h := nt_R_some h
    exact nt_zret X rfl dX8_canTellAll_48 h
  · subst hq
    refine nt_iconst X dX8_canTellAll_55 nt_ci_1 ?_
    have h := nt_R_some h
    exact nt_zret X rfl dX8_canTellAll_56 h
def bNt_goesOn_33 (nr : Nat) (ln : Nat → Nat) (x1 : Int32) (x2 : Int32) (x3 : Int32) (x4 : Int32) (x5 : Int32) (g : nt_T) : Option ((Int32 × Int32 × nt_T) ⊕ ((Int32 × nt_T))) :=
  (if (256 : Int32) ≤ x5 then
    (some (.inr (x4, g)))
  else
    ((if (x5 &&& (x3 ^^^ (-1 : Int32))) = 0 then
    (nt_b1 (fJi_bitCount_0f7a4 x5 g) fun r10 => nt_b1 (fJi_bitCount_0f7a4 x4 g) fun r11 => (if r10 ≤ r11 then
    (nt_lt (x5 + (1 : Int32)) fun v13 => some (.inl (x4, v13, g)))
  else
    (nt_b2 (fNt_canTellAll nr ln x1 x5 g) fun r14 g15 => (if r14 = 0 then
    (nt_lt (x5 + (1 : Int32)) fun v17 => some (.inl (x4, v17, g15)))
  else
    (nt_lt (x5 + (1 : Int32)) fun v18 => some (.inl (x5, v18, g15)))))))
  else
    (nt_lt (x5 + (1 : Int32)) fun v9 => some (.inl (x4, v9, g))))))
set_option maxRecDepth 100000 in
set_option maxHeartbeats 4000000 in
theorem tbNt_goesOn_33 {p : Program} {l : Launch} {e : Env} {s : State} {m : MethodId} {args : Array Value} {below : List Frame} {meth : Method} {c : Code} {w : nt_w} {A : Nat → Prop} {nr : Nat} {ln : Nat → Nat} (hw : nt_isX w)  (hR : nt_isR w nr ln) {Q : State → Prop} (X : nt_X cX8_goesOn 6 RX8 (some .int) w A p s m args meth c) (x1 : Int32) (x2 : Int32) (x3 : Int32)  {Qx : ((Int32 × nt_T)) → Prop} (hE0 : ∀ (y4 : Int32) (gy : nt_T), Qx (y4, gy) → nt_G p l e (nt_rm 15) s m args below meth c w A 0 0 Q 6 83 [(0, .ref (nt_a w 0)), (1, .int x1), (2, .int x2), (3, .int x3), (4, .int y4)] [] gy) : ∀ (n : Nat) (x4 : Int32) (x5 : Int32) (g : nt_T), nt_R (nt_it (fun z => bNt_goesOn_33 nr ln x1 x2 x3 z.1 z.2.1 z.2.2) n (x4, x5, g)) Qx → nt_G p l e (nt_rm 15) s m args below meth c w A 0 0 Q 6 33 [(0, .ref (nt_a w 0)), (1, .int x1), (2, .int x2), (3, .int x3), (4, .int x4), (5, .int x5)] [] g := by
  intro n
  induction n with
  | zero =>
    intro x4 x5 g h
    exact nt_R_none h
  | succ n ih =>
    intro x4 x5 g h
    have h : nt_R (bNt_goesOn_33 nr ln x1 x2 x3 x4 x5 g) (nt_Qz (fun z => bNt_goesOn_33 nr ln x1 x2 x3 z.1 z.2.1 z.2.2) n Qx) := nt_R_it h
    have hI : ∀ (y4 : Int32) (y5 : Int32) (gy : nt_T), nt_Qz (fun z => bNt_goesOn_33 nr ln x1 x2 x3 z.1 z.2.1 z.2.2) n Qx (.inl (y4, y5, gy)) → nt_G p l e (nt_rm 15) s m args below meth c w A 0 0 Q 6 33 [(0, .ref (nt_a w 0)), (1, .int x1), (2, .int x2), (3, .int x3), (4, .int y4), (5, .int y5)] [] gy := fun y4 y5 gy q => ih y4 y5 gy q
    have hE0 : ∀ (y4 : Int32) (gy : nt_T), nt_Qz (fun z => bNt_goesOn_33 nr ln x1 x2 x3 z.1 z.2.1 z.2.2) n Qx (.inr (y4, gy)) → nt_G p l e (nt_rm 15) s m args below meth c w A 0 0 Q 6 83 [(0, .ref (nt_a w 0)), (1, .int x1), (2, .int x2), (3, .int x3), (4, .int y4)] [] gy := hE0
    generalize nt_Qz (fun z => bNt_goesOn_33 nr ln x1 x2 x3 z.1 z.2.1 z.2.2) n Qx = Qz at h hI hE0
    unfold bNt_goesOn_33 at h
    refine nt_iload X dX8_goesOn_33 5 rfl ?_
    refine nt_sipush X dX8_goesOn_35 nt_cs_256 ?_
    obtain ⟨ht, hf⟩ := nt_R_if h
    refine nt_icmp_ge X 83 dX8_goesOn_38 (by decide) (fun q7 => ?_) (fun q7 => ?_)
    · have h := ht q7
      refine nt_sub [0, 1, 2, 3, 4] rfl ?_
      have h := nt_R_some h
      exact hE0 x4 g h
    · have h := hf q7
      refine nt_iload X dX8_goesOn_41 5 rfl ?_
      refine nt_iload_n X dX8_goesOn_43 rfl 3 rfl ?_
      refine nt_iconst X dX8_goesOn_44 nt_ci_m1 ?_
      refine nt_ixor X dX8_goesOn_45 ?_
      refine nt_iand X dX8_goesOn_46 ?_
      obtain ⟨ht, hf⟩ := nt_R_if h
      refine nt_if_ne X 77 dX8_goesOn_47 (by decide) (fun q8 => ?_) (fun q8 => ?_)
      · have h := hf q8
        obtain ⟨v9, ev9, h⟩ := nt_R_lt h
        refine nt_iinc X v9 [(5, .int v9), (0, .ref (nt_a w 0)), (1, .int x1), (2, .int x2), (3, .int x3), (4, .int x4)] dX8_goesOn_77 5 rfl (by rw [nt_ci_1]; exact ev9) (by decide) rfl ?_
        refine nt_goto X 33 dX8_goesOn_80 (by decide) ?_
        refine nt_sub [1, 2, 3, 4, 5, 0] rfl ?_
        have h := nt_R_some h
        exact hI x4 v9 g h
      · have h := ht q8
        refine nt_iload X dX8_goesOn_50 5 rfl ?_
        obtain ⟨r10, er10, h⟩ := nt_R_b1 h
        refine nt_cSi X (As := [.int x5]) (cJi_bitCount_0f7a4 hw er10) wd_438 wd_498 wd_437 wd_17 hd_J6_bitCount_0f7a4 ⟨Nat.le_of_ble_eq_true rfl, Nat.le_of_ble_eq_true rfl⟩ ⟨Nat.le_refl 0, Nat.le_refl 0⟩ (Nat.le_of_ble_eq_true rfl) rfl dX8_goesOn_52 ?_
        refine nt_iload X dX8_goesOn_55 4 rfl ?_
        obtain ⟨r11, er11, h⟩ := nt_R_b1 h
        refine nt_cSi X (As := [.int x4]) (cJi_bitCount_0f7a4 hw er11) wd_438 wd_498 wd_437 wd_17 hd_J6_bitCount_0f7a4 ⟨Nat.le_of_ble_eq_true rfl, Nat.le_of_ble_eq_true rfl⟩ ⟨Nat.le_refl 0, Nat.le_refl 0⟩ (Nat.le_of_ble_eq_true rfl) rfl dX8_goesOn_57 ?_
        obtain ⟨ht, hf⟩ := nt_R_if h
        refine nt_icmp_le X 77 dX8_goesOn_60 (by decide) (fun q12 => ?_) (fun q12 => ?_)
        · have h := ht q12
          obtain ⟨v13, ev13, h⟩ := nt_R_lt h
          refine nt_iinc X v13 [(5, .int v13), (0, .ref (nt_a w 0)), (1, .int x1), (2, .int x2), (3, .int x3), (4, .int x4)] dX8_goesOn_77 5 rfl (by rw [nt_ci_1]; exact ev13) (by decide) rfl ?_
          refine nt_goto X 33 dX8_goesOn_80 (by decide) ?_
          refine nt_sub [1, 2, 3, 4, 5, 0] rfl ?_
          have h := nt_R_some h
          exact hI x4 v13 g h
        · have h := hf q12
          refine nt_aload_n X dX8_goesOn_63 rfl 0 rfl ?_
          refine nt_iload_n X dX8_goesOn_64 rfl 1 rfl ?_
          refine nt_iload X dX8_goesOn_65 5 rfl ?_
          obtain ⟨r14, g15, er14, h⟩ := nt_R_b2 h
          refine nt_cVi X (As := [.int x1, .int x5]) 0 (nt_lX hw (Nat.le_of_ble_eq_true rfl)) (nt_e0 hw) rfl (cNt_canTellAll hw hR er14) wd_501 wd_499 wd_500 wd_1055 wd_1 rfl hd_X8_canTellAll ⟨Nat.le_of_ble_eq_true rfl, Nat.le_of_ble_eq_true rfl⟩ ⟨Nat.le_refl 0, Nat.le_refl 0⟩ (Nat.le_of_ble_eq_true rfl) rfl dX8_goesOn_67 ?_
          obtain ⟨ht, hf⟩ := nt_R_if h
          refine nt_if_eq X 77 dX8_goesOn_70 (by decide) (fun q16 => ?_) (fun q16 => ?_)
          · have h := ht q16
            obtain ⟨v17, ev17, h⟩ := nt_R_lt h
            refine nt_iinc X v17 [(5, .int v17), (0, .ref (nt_a w 0)), (1, .int x1), (2, .int x2), (3, .int x3), (4, .int x4)] dX8_goesOn_77 5 rfl (by rw [nt_ci_1]; exact ev17) (by decide) rfl ?_
            refine nt_goto X 33 dX8_goesOn_80 (by decide) ?_
            refine nt_sub [1, 2, 3, 4, 5, 0] rfl ?_
            have h := nt_R_some h
            exact hI x4 v17 g15 h
          · have h := hf q16
            refine nt_iload X dX8_goesOn_73 5 rfl ?_
            refine nt_istore X [(4, .int x5), (0, .ref (nt_a w 0)), (1, .int x1), (2, .int x2), (3, .int x3), (5, .int x5)] dX8_goesOn_75 (by decide) rfl ?_
            obtain ⟨v18, ev18, h⟩ := nt_R_lt h
            refine nt_iinc X v18 [(5, .int v18), (4, .int x5), (0, .ref (nt_a w 0)), (1, .int x1), (2, .int x2), (3, .int x3)] dX8_goesOn_77 5 rfl (by rw [nt_ci_1]; exact ev18) (by decide) rfl ?_
            refine nt_goto X 33 dX8_goesOn_80 (by decide) ?_
            refine nt_sub [2, 3, 4, 5, 1, 0] rfl ?_
            have h := nt_R_some h
            exact hI x5 v18 g15 h
def fNt_goesOn (nr : Nat) (ln : Nat → Nat) (x1 : Int32) (x2 : Int32) (g : nt_T) : Option (Int32 × nt_T) :=
  nt_b1 (fNt_isHouse x1 g) fun r1 => (if r1 = 0 then
    (some ((-2 : Int32), g))
  else
    (nt_b1 (fNt_isBelow x2 (2 : Int32) g) fun r3 => (if r3 = 0 then
    (some ((-2 : Int32), g))
  else
    (nt_b2 (fPp_unheardIn 14 x1 g) fun r5 g6 => (nt_b1 (nt_it (fun z => bNt_goesOn_33 nr ln x1 x2 r5 z.1 z.2.1 z.2.2) nt_fu ((0 : Int32), (1 : Int32), g6)) fun z23 => match z23 with
  | (v19, g20) => (if x2 = 0 then
    (nt_b1 (fJi_bitCount_0f7a4 v19 g20) fun r22 => some (r22, g20))
  else
    (some (v19, g20))))))))
set_option maxRecDepth 100000 in
set_option maxHeartbeats 4000000 in
theorem cNt_goesOn {l : Launch} {w : nt_w} (hw : nt_isX w) {nr : Nat} {ln : Nat → Nat}  (hR : nt_isR w nr ln) {x1 : Int32} {x2 : Int32} {g : nt_T} {r : Int32} {g2 : nt_T} (hf : fNt_goesOn nr ln x1 x2 g = some (r, g2)) : nt_Mi l w yX8_goesOn cX8_goesOn 6 (some .int) 15 [.ref (nt_a w 0), .int x1, .int x2] g r g2 := by
  refine nt_Mi_of (by decide) (Nat.le_of_ble_eq_true rfl) (fun p e s m args below meth c A X => ?_)
  have X : nt_X cX8_goesOn 6 RX8 (some .int) w A p s m args meth c := X
  have h : nt_R (fNt_goesOn nr ln x1 x2 g) (fun z => z = (r, g2)) := ⟨_, hf, rfl⟩
  unfold fNt_goesOn at h
  show nt_G p l e (nt_rm 15) s m args below meth c w A 0 0 (nt_Qi w A below args s r g2) 6 0 [(0, .ref (nt_a w 0)), (1, .int x1), (2, .int x2)] [] g
  refine nt_iload_n X dX8_goesOn_0 rfl 1 rfl ?_
  obtain ⟨r1, er1, h⟩ := nt_R_b1 h
  refine nt_cSi X (As := [.int x1]) (cNt_isHouse hw er1) wd_368 wd_366 wd_367 wd_1 hd_X8_isHouse ⟨Nat.le_of_ble_eq_true rfl, Nat.le_of_ble_eq_true rfl⟩ ⟨Nat.le_refl 0, Nat.le_refl 0⟩ (Nat.le_of_ble_eq_true rfl) rfl dX8_goesOn_1 ?_
  obtain ⟨ht, hf⟩ := nt_R_if h
  refine nt_if_eq X 15 dX8_goesOn_4 (by decide) (fun q2 => ?_) (fun q2 => ?_)
  · have h := ht q2
    refine nt_bipush X dX8_goesOn_15 nt_cb_m2 ?_
    have h := nt_R_some h
    exact nt_iret X dX8_goesOn_17 h
  · have h := hf q2
    refine nt_iload_n X dX8_goesOn_7 rfl 2 rfl ?_
    refine nt_iconst X dX8_goesOn_8 nt_ci_2 ?_
    obtain ⟨r3, er3, h⟩ := nt_R_b1 h
    refine nt_cSi X (As := [.int x2, .int (2 : Int32)]) (cNt_isBelow hw er3) wd_336 wd_334 wd_335 wd_1 hd_X8_isBelow ⟨Nat.le_of_ble_eq_true rfl, Nat.le_of_ble_eq_true rfl⟩ ⟨Nat.le_refl 0, Nat.le_refl 0⟩ (Nat.le_of_ble_eq_true rfl) rfl dX8_goesOn_9 ?_
    obtain ⟨ht, hf⟩ := nt_R_if h
    refine nt_if_ne X 18 dX8_goesOn_12 (by decide) (fun q4 => ?_) (fun q4 => ?_)
    · have h := hf q4
      refine nt_aload_n X dX8_goesOn_18 rfl 0 rfl ?_
      refine nt_get X 0 inX8 (nt_lX hw (Nat.le_of_ble_eq_true rfl)) (nt_e0 hw) rfl (j := 3) (by decide) wd_315 (v := .ref (nt_a w 14)) rfl dX8_goesOn_19 ?_
      refine nt_iload_n X dX8_goesOn_22 rfl 1 rfl ?_
      obtain ⟨r5, g6, er5, h⟩ := nt_R_b2 h
      refine nt_cVNi X (As := [.int x1]) 14 (nt_lP hw nt_p14 0 (by decide)) (nt_eP hw nt_p14) rfl (cPp_unheardIn hw nt_p14 er5) wd_497 nt_nm41 wd_496 wd_1054 wd_13 hd_X0_unheardIn ⟨Nat.le_of_ble_eq_true rfl, Nat.le_of_ble_eq_true rfl⟩ ⟨Nat.le_refl 0, Nat.le_refl 0⟩ (Nat.le_of_ble_eq_true rfl) rfl dX8_goesOn_23 ?_
      refine nt_istore_n X [(3, .int r5), (0, .ref (nt_a w 0)), (1, .int x1), (2, .int x2)] dX8_goesOn_26 rfl (by decide) rfl ?_
      refine nt_iconst X dX8_goesOn_27 nt_ci_0 ?_
      refine nt_istore X [(4, .int (0 : Int32)), (3, .int r5), (0, .ref (nt_a w 0)), (1, .int x1), (2, .int x2)] dX8_goesOn_28 (by decide) rfl ?_
      refine nt_iconst X dX8_goesOn_30 nt_ci_1 ?_
      refine nt_istore X [(5, .int (1 : Int32)), (4, .int (0 : Int32)), (3, .int r5), (0, .ref (nt_a w 0)), (1, .int x1), (2, .int x2)] dX8_goesOn_31 (by decide) rfl ?_
      obtain ⟨z23, hz23, h⟩ := nt_R_b1 h
      refine nt_sub [3, 4, 5, 2, 1, 0] rfl ?_
      refine tbNt_goesOn_33 hw  hR X x1 x2 r5 (Qx := fun z => z = z23) (fun v19 g20 hq => ?_) nt_fu (0 : Int32) (1 : Int32) g6 ⟨_, hz23, rfl⟩
      subst hq
      refine nt_iload_n X dX8_goesOn_83 rfl 2 rfl ?_
      obtain ⟨ht, hf⟩ := nt_R_if h
      refine nt_if_ne X 95 dX8_goesOn_84 (by decide) (fun q21 => ?_) (fun q21 => ?_)
      · have h := hf q21
        refine nt_iload X dX8_goesOn_95 4 rfl ?_
        have h := nt_R_some h
        exact nt_iret X dX8_goesOn_97 h
      · have h := ht q21
        refine nt_iload X dX8_goesOn_87 4 rfl ?_
        obtain ⟨r22, er22, h⟩ := nt_R_b1 h
        refine nt_cSi X (As := [.int v19]) (cJi_bitCount_0f7a4 hw er22) wd_438 wd_498 wd_437 wd_17 hd_J6_bitCount_0f7a4 ⟨Nat.le_of_ble_eq_true rfl, Nat.le_of_ble_eq_true rfl⟩ ⟨Nat.le_refl 0, Nat.le_refl 0⟩ (Nat.le_of_ble_eq_true rfl) rfl dX8_goesOn_89 ?_
        refine nt_goto X 97 dX8_goesOn_92 (by decide) ?_
        have h := nt_R_some h
        exact nt_iret X dX8_goesOn_97 h
    · have h := ht q4
      refine nt_bipush X dX8_goesOn_15 nt_cb_m2 ?_
      have h := nt_R_some h
      exact nt_iret X dX8_goesOn_17 h
def jNt_spread_29 (nr : Nat) (ln : Nat → Nat) (x1 : Int32) (x2 : Int32) (g : nt_T) : Option (Int32 × nt_T) :=
  nt_b1 (fSe_waysOver x1 g) fun r4 => (if r4 ≤ (4096 : Int32) then
    (nt_b1 (fSe_search nr ln x1 g) fun g6 => (if x2 = (-1 : Int32) then
    (some ((g6 35 3), g6))
  else
    (nt_gd (nt_in x2 8) <| some ((g6 37 (Int32.toNatClampNeg x2)), g6))))
  else
    (some ((-2 : Int32), g)))
set_option maxRecDepth 100000 in
set_option maxHeartbeats 4000000 in
theorem tjNt_spread_29 {p : Program} {l : Launch} {e : Env} {s : State} {m : MethodId} {args : Array Value} {below : List Frame} {meth : Method} {c : Code} {w : nt_w} {A : Nat → Prop} {nr : Nat} {ln : Nat → Nat} (hw : nt_isX w)  (hR : nt_isR w nr ln) {r : Int32} {g2 : nt_T}  (X : nt_X cX8_spread 3 RX8 (some .int) w A p s m args meth c) (x1 : Int32) (x2 : Int32) (g : nt_T) (h : nt_R (jNt_spread_29 nr ln x1 x2 g) (fun z => z = (r, g2))) : nt_G p l e (nt_rm 13) s m args below meth c w A 0 0 (nt_Qi w A below args s r g2) 3 29 [(0, .ref (nt_a w 0)), (1, .int x1), (2, .int x2)] [] g := by
  unfold jNt_spread_29 at h
  refine nt_aload_n X dX8_spread_29 rfl 0 rfl ?_
  refine nt_get X 0 inX8 (nt_lX hw (Nat.le_of_ble_eq_true rfl)) (nt_e0 hw) rfl (j := 6) (by decide) wd_318 (v := .ref (nt_a w 35)) rfl dX8_spread_30 ?_
  refine nt_iload_n X dX8_spread_33 rfl 1 rfl ?_
  obtain ⟨r4, er4, h⟩ := nt_R_b1 h
  refine nt_cVNi X (As := [.int x1]) 35 (nt_lX hw (Nat.le_of_ble_eq_true rfl)) (nt_e35 hw) rfl (cSe_waysOver hw er4) wd_513 nt_nm43 wd_512 wd_1058 wd_14 hd_X3_waysOver ⟨Nat.le_of_ble_eq_true rfl, Nat.le_of_ble_eq_true rfl⟩ ⟨Nat.le_refl 0, Nat.le_refl 0⟩ (Nat.le_of_ble_eq_true rfl) rfl dX8_spread_34 ?_
  refine nt_sipush X dX8_spread_37 nt_cs_4096 ?_
  obtain ⟨ht, hf⟩ := nt_R_if h
  refine nt_icmp_le X 46 dX8_spread_40 (by decide) (fun q5 => ?_) (fun q5 => ?_)
  · have h := ht q5
    refine nt_aload_n X dX8_spread_46 rfl 0 rfl ?_
    refine nt_get X 0 inX8 (nt_lX hw (Nat.le_of_ble_eq_true rfl)) (nt_e0 hw) rfl (j := 6) (by decide) wd_318 (v := .ref (nt_a w 35)) rfl dX8_spread_47 ?_
    refine nt_iload_n X dX8_spread_50 rfl 1 rfl ?_
    obtain ⟨g6, eg6, h⟩ := nt_R_b1 h
    refine nt_cVNv X (As := [.int x1]) 35 (nt_lX hw (Nat.le_of_ble_eq_true rfl)) (nt_e35 hw) rfl (cSe_search hw hR eg6) wd_515 nt_nm44 wd_514 wd_1059 wd_14 hd_X3_search ⟨Nat.le_of_ble_eq_true rfl, Nat.le_of_ble_eq_true rfl⟩ ⟨Nat.le_refl 0, Nat.le_refl 0⟩ (Nat.le_of_ble_eq_true rfl) rfl dX8_spread_51 ?_
    refine nt_iload_n X dX8_spread_54 rfl 2 rfl ?_
    refine nt_iconst X dX8_spread_55 nt_ci_m1 ?_
    obtain ⟨ht, hf⟩ := nt_R_if h
    refine nt_icmp_ne X 69 dX8_spread_56 (by decide) (fun q7 => ?_) (fun q7 => ?_)
    · have h := hf q7
      refine nt_aload_n X dX8_spread_69 rfl 0 rfl ?_
      refine nt_get X 0 inX8 (nt_lX hw (Nat.le_of_ble_eq_true rfl)) (nt_e0 hw) rfl (j := 6) (by decide) wd_318 (v := .ref (nt_a w 35)) rfl dX8_spread_70 ?_
      refine nt_getN X 35 inX3 (nt_lX hw (Nat.le_of_ble_eq_true rfl)) (nt_e35 hw) rfl (j := 2) (by decide) nt_nf21 (v := .ref (nt_a w 37)) rfl dX8_spread_73 ?_
      refine nt_iload_n X dX8_spread_76 rfl 2 rfl ?_
      obtain ⟨q8, h⟩ := nt_R_gd h
      refine nt_iald X 37 0 (nt_lX hw (Nat.le_of_ble_eq_true rfl)) (nt_e37 hw) (nt_tX hw) q8 dX8_spread_77 ?_
      have h := nt_R_some h
      exact nt_iret X dX8_spread_78 h
    · have h := ht q7
      refine nt_aload_n X dX8_spread_59 rfl 0 rfl ?_
      refine nt_get X 0 inX8 (nt_lX hw (Nat.le_of_ble_eq_true rfl)) (nt_e0 hw) rfl (j := 6) (by decide) wd_318 (v := .ref (nt_a w 35)) rfl dX8_spread_60 ?_
      refine nt_getN X 35 inX3 (nt_lX hw (Nat.le_of_ble_eq_true rfl)) (nt_e35 hw) rfl (j := 3) (by decide) nt_nf22 (v := .int (g6 35 3)) rfl dX8_spread_63 ?_
      refine nt_goto X 78 dX8_spread_66 (by decide) ?_
      have h := nt_R_some h
      exact nt_iret X dX8_spread_78 h
  · have h := hf q5
    refine nt_bipush X dX8_spread_43 nt_cb_m2 ?_
    have h := nt_R_some h
    exact nt_iret X dX8_spread_45 h
def fNt_spread (nr : Nat) (ln : Nat → Nat) (x1 : Int32) (x2 : Int32) (g : nt_T) : Option (Int32 × nt_T) :=
  (if x1 < (1 : Int32) then
    (some ((-2 : Int32), g))
  else
    ((if (4 : Int32) < x1 then
    (some ((-2 : Int32), g))
  else
    ((if x2 = (-1 : Int32) then
    (jNt_spread_29 nr ln x1 x2 g)
  else
    (nt_b1 (fPp_has 14 x2 g) fun r9 => (if r9 = 0 then
    (some ((-2 : Int32), g))
  else
    (jNt_spread_29 nr ln x1 x2 g))))))))
set_option maxRecDepth 100000 in
set_option maxHeartbeats 4000000 in
theorem cNt_spread {l : Launch} {w : nt_w} (hw : nt_isX w) {nr : Nat} {ln : Nat → Nat}  (hR : nt_isR w nr ln) {x1 : Int32} {x2 : Int32} {g : nt_T} {r : Int32} {g2 : nt_T} (hf : fNt_spread nr ln x1 x2 g = some (r, g2)) : nt_Mi l w yX8_spread cX8_spread 3 (some .int) 13 [.ref (nt_a w 0), .int x1, .int x2] g r g2 := by
  refine nt_Mi_of (by decide) (Nat.le_of_ble_eq_true rfl) (fun p e s m args below meth c A X => ?_)
  have X : nt_X cX8_spread 3 RX8 (some .int) w A p s m args meth c := X
  have h : nt_R (fNt_spread nr ln x1 x2 g) (fun z => z = (r, g2)) := ⟨_, hf, rfl⟩
  unfold fNt_spread at h
  show nt_G p l e (nt_rm 13) s m args below meth c w A 0 0 (nt_Qi w A below args s r g2) 3 0 [(0, .ref (nt_a w 0)), (1, .int x1), (2, .int x2)] [] g
  refine nt_iload_n X dX8_spread_0 rfl 1 rfl ?_
  refine nt_iconst X dX8_spread_1 nt_ci_1 ?_
  obtain ⟨ht, hf⟩ := nt_R_if h
  refine nt_icmp_lt X 26 dX8_spread_2 (by decide) (fun q1 => ?_) (fun q1 => ?_)
  · have h := ht q1
    refine nt_bipush X dX8_spread_26 nt_cb_m2 ?_
    have h := nt_R_some h
    exact nt_iret X dX8_spread_28 h
  · have h := hf q1
    refine nt_iload_n X dX8_spread_5 rfl 1 rfl ?_
    refine nt_iconst X dX8_spread_6 nt_ci_4 ?_
    obtain ⟨ht, hf⟩ := nt_R_if h
    refine nt_icmp_gt X 26 dX8_spread_7 (by decide) (fun q2 => ?_) (fun q2 => ?_)
    · have h := ht q2
      refine nt_bipush X dX8_spread_26 nt_cb_m2 ?_
      have h := nt_R_some h
      exact nt_iret X dX8_spread_28 h
    · have h := hf q2
      refine nt_iload_n X dX8_spread_10 rfl 2 rfl ?_
      refine nt_iconst X dX8_spread_11 nt_ci_m1 ?_
      obtain ⟨ht, hf⟩ := nt_R_if h
      refine nt_icmp_eq X 29 dX8_spread_12 (by decide) (fun q3 => ?_) (fun q3 => ?_)
      · have h := ht q3
        exact tjNt_spread_29 hw  hR X x1 x2 g h
      · have h := hf q3
        refine nt_aload_n X dX8_spread_15 rfl 0 rfl ?_
        refine nt_get X 0 inX8 (nt_lX hw (Nat.le_of_ble_eq_true rfl)) (nt_e0 hw) rfl (j := 3) (by decide) wd_315 (v := .ref (nt_a w 14)) rfl dX8_spread_16 ?_
        refine nt_iload_n X dX8_spread_19 rfl 2 rfl ?_
        obtain ⟨r9, er9, h⟩ := nt_R_b1 h
        refine nt_cVNi X (As := [.int x2]) 14 (nt_lP hw nt_p14 0 (by decide)) (nt_eP hw nt_p14) rfl (cPp_has hw nt_p14 er9) wd_365 nt_nm18 wd_364 wd_1030 wd_13 hd_X0_has ⟨Nat.le_of_ble_eq_true rfl, Nat.le_of_ble_eq_true rfl⟩ ⟨Nat.le_refl 0, Nat.le_refl 0⟩ (Nat.le_of_ble_eq_true rfl) rfl dX8_spread_20 ?_
        obtain ⟨ht, hf⟩ := nt_R_if h
        refine nt_if_ne X 29 dX8_spread_23 (by decide) (fun q10 => ?_) (fun q10 => ?_)
        · have h := hf q10
          exact tjNt_spread_29 hw  hR X x1 x2 g h
        · have h := ht q10
          refine nt_bipush X dX8_spread_26 nt_cb_m2 ?_
          have h := nt_R_some h
          exact nt_iret X dX8_spread_28 h
def bNt_keepAway_28 (nr : Nat) (ln : Nat → Nat) (x1 : Int32) (x2 : Int32) (x3 : Int32) (x4 : Int32) (g : nt_T) : Option ((Int32 × Int32 × Int32 × nt_T) ⊕ ((Int32 × nt_T))) :=
  (if (g 14 7) ≤ x4 then
    (some (.inr (x2, g)))
  else
    (nt_gd (nt_in x4 9) <| (if (g 15 (Int32.toNatClampNeg x4)) = x1 then
    (nt_gd (nt_in x4 9) <| nt_lt (nt_st g 22 (Int32.toNatClampNeg x4) (-1 : Int32)) fun g8 => nt_b2 (fPp_tellableIn nr ln 21 x1 g8) fun r9 g10 => nt_b1 (fJi_bitCount_0f7a4 r9 g10) fun r11 => nt_gd (nt_in x4 9) <| nt_lt (nt_st g10 22 (Int32.toNatClampNeg x4) x1) fun g13 => (if r11 ≤ x3 then
    (nt_lt (x4 + (1 : Int32)) fun v15 => some (.inl (x2, x3, v15, g13)))
  else
    (nt_lt (x4 + (1 : Int32)) fun v16 => some (.inl (x4, r11, v16, g13)))))
  else
    (nt_lt (x4 + (1 : Int32)) fun v17 => some (.inl (x2, x3, v17, g))))))
set_option maxRecDepth 100000 in
set_option maxHeartbeats 4000000 in
theorem tbNt_keepAway_28 {p : Program} {l : Launch} {e : Env} {s : State} {m : MethodId} {args : Array Value} {below : List Frame} {meth : Method} {c : Code} {w : nt_w} {A : Nat → Prop} {nr : Nat} {ln : Nat → Nat} (hw : nt_isX w)  (hR : nt_isR w nr ln) {Q : State → Prop} (X : nt_X cX8_keepAway 6 RX8 (some .int) w A p s m args meth c) (x1 : Int32)  {Qx : ((Int32 × nt_T)) → Prop} (hE0 : ∀ (y2 : Int32) (gy : nt_T), Qx (y2, gy) → nt_G p l e (nt_rm 11) s m args below meth c w A 0 0 Q 6 110 [(0, .ref (nt_a w 0)), (1, .int x1), (2, .int y2)] [] gy) : ∀ (n : Nat) (x2 : Int32) (x3 : Int32) (x4 : Int32) (g : nt_T), nt_R (nt_it (fun z => bNt_keepAway_28 nr ln x1 z.1 z.2.1 z.2.2.1 z.2.2.2) n (x2, x3, x4, g)) Qx → nt_G p l e (nt_rm 11) s m args below meth c w A 0 0 Q 6 28 [(0, .ref (nt_a w 0)), (1, .int x1), (2, .int x2), (3, .int x3), (4, .int x4)] [] g := by
  intro n
  induction n with
  | zero =>
    intro x2 x3 x4 g h
    exact nt_R_none h
  | succ n ih =>
    intro x2 x3 x4 g h
    have h : nt_R (bNt_keepAway_28 nr ln x1 x2 x3 x4 g) (nt_Qz (fun z => bNt_keepAway_28 nr ln x1 z.1 z.2.1 z.2.2.1 z.2.2.2) n Qx) := nt_R_it h
    have hI : ∀ (y2 : Int32) (y3 : Int32) (y4 : Int32) (gy : nt_T), nt_Qz (fun z => bNt_keepAway_28 nr ln x1 z.1 z.2.1 z.2.2.1 z.2.2.2) n Qx (.inl (y2, y3, y4, gy)) → nt_G p l e (nt_rm 11) s m args below meth c w A 0 0 Q 6 28 [(0, .ref (nt_a w 0)), (1, .int x1), (2, .int y2), (3, .int y3), (4, .int y4)] [] gy := fun y2 y3 y4 gy q => ih y2 y3 y4 gy q
    have hE0 : ∀ (y2 : Int32) (gy : nt_T), nt_Qz (fun z => bNt_keepAway_28 nr ln x1 z.1 z.2.1 z.2.2.1 z.2.2.2) n Qx (.inr (y2, gy)) → nt_G p l e (nt_rm 11) s m args below meth c w A 0 0 Q 6 110 [(0, .ref (nt_a w 0)), (1, .int x1), (2, .int y2)] [] gy := hE0
    generalize nt_Qz (fun z => bNt_keepAway_28 nr ln x1 z.1 z.2.1 z.2.2.1 z.2.2.2) n Qx = Qz at h hI hE0
    unfold bNt_keepAway_28 at h
    refine nt_iload X dX8_keepAway_28 4 rfl ?_
    refine nt_aload_n X dX8_keepAway_30 rfl 0 rfl ?_
    refine nt_get X 0 inX8 (nt_lX hw (Nat.le_of_ble_eq_true rfl)) (nt_e0 hw) rfl (j := 3) (by decide) wd_315 (v := .ref (nt_a w 14)) rfl dX8_keepAway_31 ?_
    refine nt_getN X 14 inX0 (nt_lP hw nt_p14 0 (by decide)) (nt_eP hw nt_p14) rfl (j := 7) (by decide) nt_nf18 (v := .int (g 14 7)) rfl dX8_keepAway_34 ?_
    obtain ⟨ht, hf⟩ := nt_R_if h
    refine nt_icmp_ge X 110 dX8_keepAway_37 (by decide) (fun q4 => ?_) (fun q4 => ?_)
    · have h := ht q4
      refine nt_sub [0, 1, 2] rfl ?_
      have h := nt_R_some h
      exact hE0 x2 g h
    · have h := hf q4
      refine nt_aload_n X dX8_keepAway_40 rfl 0 rfl ?_
      refine nt_get X 0 inX8 (nt_lX hw (Nat.le_of_ble_eq_true rfl)) (nt_e0 hw) rfl (j := 3) (by decide) wd_315 (v := .ref (nt_a w 14)) rfl dX8_keepAway_41 ?_
      refine nt_getN X 14 inX0 (nt_lP hw nt_p14 0 (by decide)) (nt_eP hw nt_p14) rfl (j := 2) (by decide) nt_nf12 (v := .ref (nt_a w 15)) rfl dX8_keepAway_44 ?_
      refine nt_iload X dX8_keepAway_47 4 rfl ?_
      obtain ⟨q5, h⟩ := nt_R_gd h
      refine nt_iald X 15 0 (nt_lP hw nt_p14 1 (by decide)) (nt_eP1 hw nt_p14) (nt_tX hw) q5 dX8_keepAway_49 ?_
      refine nt_iload_n X dX8_keepAway_50 rfl 1 rfl ?_
      obtain ⟨ht, hf⟩ := nt_R_if h
      refine nt_icmp_eq X 57 dX8_keepAway_51 (by decide) (fun q6 => ?_) (fun q6 => ?_)
      · have h := ht q6
        refine nt_aload_n X dX8_keepAway_57 rfl 0 rfl ?_
        refine nt_get X 0 inX8 (nt_lX hw (Nat.le_of_ble_eq_true rfl)) (nt_e0 hw) rfl (j := 4) (by decide) wd_316 (v := .ref (nt_a w 21)) rfl dX8_keepAway_58 ?_
        refine nt_getN X 21 inX0 (nt_lP hw nt_p21 0 (by decide)) (nt_eP hw nt_p21) rfl (j := 2) (by decide) nt_nf12 (v := .ref (nt_a w 22)) rfl dX8_keepAway_61 ?_
        refine nt_iload X dX8_keepAway_64 4 rfl ?_
        refine nt_iconst X dX8_keepAway_66 nt_ci_m1 ?_
        obtain ⟨q7, h⟩ := nt_R_gd h
        refine nt_iast X 22 0 (nt_lP hw nt_p21 1 (by decide)) (nt_eP1 hw nt_p21) (nt_tX hw) q7 dX8_keepAway_67 ?_
        obtain ⟨g8, eg8, h⟩ := nt_R_lt h
        refine nt_geq eg8 ?_
        refine nt_aload_n X dX8_keepAway_68 rfl 0 rfl ?_
        refine nt_get X 0 inX8 (nt_lX hw (Nat.le_of_ble_eq_true rfl)) (nt_e0 hw) rfl (j := 4) (by decide) wd_316 (v := .ref (nt_a w 21)) rfl dX8_keepAway_69 ?_
        refine nt_iload_n X dX8_keepAway_72 rfl 1 rfl ?_
        obtain ⟨r9, g10, er9, h⟩ := nt_R_b2 h
        refine nt_cVNi X (As := [.int x1]) 21 (nt_lP hw nt_p21 0 (by decide)) (nt_eP hw nt_p21) rfl (cPp_tellableIn hw hR nt_p21 er9) wd_418 nt_nm30 wd_417 wd_1039 wd_13 hd_X0_tellableIn ⟨Nat.le_of_ble_eq_true rfl, Nat.le_of_ble_eq_true rfl⟩ ⟨Nat.le_refl 0, Nat.le_refl 0⟩ (Nat.le_of_ble_eq_true rfl) rfl dX8_keepAway_73 ?_
        obtain ⟨r11, er11, h⟩ := nt_R_b1 h
        refine nt_cSi X (As := [.int r9]) (cJi_bitCount_0f7a4 hw er11) wd_438 wd_498 wd_437 wd_17 hd_J6_bitCount_0f7a4 ⟨Nat.le_of_ble_eq_true rfl, Nat.le_of_ble_eq_true rfl⟩ ⟨Nat.le_refl 0, Nat.le_refl 0⟩ (Nat.le_of_ble_eq_true rfl) rfl dX8_keepAway_76 ?_
        refine nt_istore X [(5, .int r11), (0, .ref (nt_a w 0)), (1, .int x1), (2, .int x2), (3, .int x3), (4, .int x4)] dX8_keepAway_79 (by decide) rfl ?_
        refine nt_aload_n X dX8_keepAway_81 rfl 1 rfl ?_
        refine nt_get X 0 inX8 (nt_lX hw (Nat.le_of_ble_eq_true rfl)) (nt_e0 hw) rfl (j := 4) (by decide) wd_316 (v := .ref (nt_a w 21)) rfl dX8_keepAway_82 ?_
        refine nt_getN X 21 inX0 (nt_lP hw nt_p21 0 (by decide)) (nt_eP hw nt_p21) rfl (j := 2) (by decide) nt_nf12 (v := .ref (nt_a w 22)) rfl dX8_keepAway_85 ?_
        refine nt_iload X dX8_keepAway_88 5 rfl ?_
        refine nt_iload_n X dX8_keepAway_90 rfl 2 rfl ?_
        obtain ⟨q12, h⟩ := nt_R_gd h
        refine nt_iast X 22 0 (nt_lP hw nt_p21 1 (by decide)) (nt_eP1 hw nt_p21) (nt_tX hw) q12 dX8_keepAway_91 ?_
        obtain ⟨g13, eg13, h⟩ := nt_R_lt h
        refine nt_geq eg13 ?_
        refine nt_iload X dX8_keepAway_92 0 rfl ?_
        refine nt_iload_n X dX8_keepAway_94 rfl 4 rfl ?_
        obtain ⟨ht, hf⟩ := nt_R_if h
        refine nt_icmp_le X 104 dX8_keepAway_95 (by decide) (fun q14 => ?_) (fun q14 => ?_)
        · have h := ht q14
          obtain ⟨v15, ev15, h⟩ := nt_R_lt h
          refine nt_iinc X v15 [(4, .int v15), (5, .int r11), (0, .ref (nt_a w 0)), (1, .int x1), (2, .int x2), (3, .int x3)] dX8_keepAway_104 5 rfl (by rw [nt_ci_1]; exact ev15) (by decide) rfl ?_
          refine nt_goto X 28 dX8_keepAway_107 (by decide) ?_
          refine nt_sub [2, 3, 4, 5, 0] rfl ?_
          have h := nt_R_some h
          exact hI x2 x3 v15 g13 h
        · have h := hf q14
          refine nt_iload X dX8_keepAway_98 0 rfl ?_
          refine nt_istore_n X [(3, .int r11), (5, .int r11), (0, .ref (nt_a w 0)), (1, .int x1), (2, .int x2), (4, .int x4)] dX8_keepAway_100 rfl (by decide) rfl ?_
          refine nt_iload X dX8_keepAway_101 5 rfl ?_
          refine nt_istore_n X [(2, .int x4), (3, .int r11), (5, .int r11), (0, .ref (nt_a w 0)), (1, .int x1), (4, .int x4)] dX8_keepAway_103 rfl (by decide) rfl ?_
          obtain ⟨v16, ev16, h⟩ := nt_R_lt h
          refine nt_iinc X v16 [(4, .int v16), (2, .int x4), (3, .int r11), (5, .int r11), (0, .ref (nt_a w 0)), (1, .int x1)] dX8_keepAway_104 5 rfl (by rw [nt_ci_1]; exact ev16) (by decide) rfl ?_
          refine nt_goto X 28 dX8_keepAway_107 (by decide) ?_
          refine nt_sub [4, 5, 1, 2, 0] rfl ?_
          have h := nt_R_some h
          exact hI x4 r11 v16 g13 h
      · have h := hf q6
        refine nt_goto X 104 dX8_keepAway_54 (by decide) ?_
        obtain ⟨v17, ev17, h⟩ := nt_R_lt h
        refine nt_iinc X v17 [(4, .int v17), (0, .ref (nt_a w 0)), (1, .int x1), (2, .int x2), (3, .int x3)] dX8_keepAway_104 4 rfl (by rw [nt_ci_1]; exact ev17) (by decide) rfl ?_
        refine nt_goto X 28 dX8_keepAway_107 (by decide) ?_
        refine nt_sub [1, 2, 3, 4, 0] rfl ?_
        have h := nt_R_some h
        exact hI x2 x3 v17 g h
def fNt_keepAway (nr : Nat) (ln : Nat → Nat) (x1 : Int32) (g : nt_T) : Option (Int32 × nt_T) :=
  nt_b1 (fNt_isHouse x1 g) fun r1 => (if r1 = 0 then
    (some ((-2 : Int32), g))
  else
    (nt_b1 (fPp_takeAll 21 14 g) fun g3 => (nt_b1 (nt_it (fun z => bNt_keepAway_28 nr ln x1 z.1 z.2.1 z.2.2.1 z.2.2.2) nt_fu ((-1 : Int32), (-1 : Int32), (0 : Int32), g3)) fun z20 => match z20 with
  | (v18, g19) => some (v18, g19))))
set_option maxRecDepth 100000 in
set_option maxHeartbeats 4000000 in
theorem cNt_keepAway {l : Launch} {w : nt_w} (hw : nt_isX w) {nr : Nat} {ln : Nat → Nat}  (hR : nt_isR w nr ln) {x1 : Int32} {g : nt_T} {r : Int32} {g2 : nt_T} (hf : fNt_keepAway nr ln x1 g = some (r, g2)) : nt_Mi l w yX8_keepAway cX8_keepAway 6 (some .int) 11 [.ref (nt_a w 0), .int x1] g r g2 := by
  refine nt_Mi_of (by decide) (Nat.le_of_ble_eq_true rfl) (fun p e s m args below meth c A X => ?_)
  have X : nt_X cX8_keepAway 6 RX8 (some .int) w A p s m args meth c := X
  have h : nt_R (fNt_keepAway nr ln x1 g) (fun z => z = (r, g2)) := ⟨_, hf, rfl⟩
  unfold fNt_keepAway at h
  show nt_G p l e (nt_rm 11) s m args below meth c w A 0 0 (nt_Qi w A below args s r g2) 6 0 [(0, .ref (nt_a w 0)), (1, .int x1)] [] g
  refine nt_iload_n X dX8_keepAway_0 rfl 1 rfl ?_
  obtain ⟨r1, er1, h⟩ := nt_R_b1 h
  refine nt_cSi X (As := [.int x1]) (cNt_isHouse hw er1) wd_368 wd_366 wd_367 wd_1 hd_X8_isHouse ⟨Nat.le_of_ble_eq_true rfl, Nat.le_of_ble_eq_true rfl⟩ ⟨Nat.le_refl 0, Nat.le_refl 0⟩ (Nat.le_of_ble_eq_true rfl) rfl dX8_keepAway_1 ?_
  obtain ⟨ht, hf⟩ := nt_R_if h
  refine nt_if_ne X 10 dX8_keepAway_4 (by decide) (fun q2 => ?_) (fun q2 => ?_)
  · have h := hf q2
    refine nt_aload_n X dX8_keepAway_10 rfl 0 rfl ?_
    refine nt_get X 0 inX8 (nt_lX hw (Nat.le_of_ble_eq_true rfl)) (nt_e0 hw) rfl (j := 4) (by decide) wd_316 (v := .ref (nt_a w 21)) rfl dX8_keepAway_11 ?_
    refine nt_aload_n X dX8_keepAway_14 rfl 0 rfl ?_
    refine nt_get X 0 inX8 (nt_lX hw (Nat.le_of_ble_eq_true rfl)) (nt_e0 hw) rfl (j := 3) (by decide) wd_315 (v := .ref (nt_a w 14)) rfl dX8_keepAway_15 ?_
    obtain ⟨g3, eg3, h⟩ := nt_R_b1 h
    refine nt_cVNv X (As := [.ref (nt_a w 14)]) 21 (nt_lP hw nt_p21 0 (by decide)) (nt_eP hw nt_p21) rfl (cPp_takeAll hw nt_p21 nt_p14 eg3) wd_503 nt_nm42 wd_502 wd_1056 wd_13 hd_X0_takeAll ⟨Nat.le_of_ble_eq_true rfl, Nat.le_of_ble_eq_true rfl⟩ ⟨Nat.le_refl 0, Nat.le_refl 0⟩ (Nat.le_of_ble_eq_true rfl) rfl dX8_keepAway_18 ?_
    refine nt_iconst X dX8_keepAway_21 nt_ci_m1 ?_
    refine nt_istore_n X [(2, .int (-1 : Int32)), (0, .ref (nt_a w 0)), (1, .int x1)] dX8_keepAway_22 rfl (by decide) rfl ?_
    refine nt_iconst X dX8_keepAway_23 nt_ci_m1 ?_
    refine nt_istore_n X [(3, .int (-1 : Int32)), (2, .int (-1 : Int32)), (0, .ref (nt_a w 0)), (1, .int x1)] dX8_keepAway_24 rfl (by decide) rfl ?_
    refine nt_iconst X dX8_keepAway_25 nt_ci_0 ?_
    refine nt_istore X [(4, .int (0 : Int32)), (3, .int (-1 : Int32)), (2, .int (-1 : Int32)), (0, .ref (nt_a w 0)), (1, .int x1)] dX8_keepAway_26 (by decide) rfl ?_
    obtain ⟨z20, hz20, h⟩ := nt_R_b1 h
    refine nt_sub [3, 4, 2, 1, 0] rfl ?_
    refine tbNt_keepAway_28 hw  hR X x1 (Qx := fun z => z = z20) (fun v18 g19 hq => ?_) nt_fu (-1 : Int32) (-1 : Int32) (0 : Int32) g3 ⟨_, hz20, rfl⟩
    subst hq
    refine nt_iload_n X dX8_keepAway_110 rfl 2 rfl ?_
    have h := nt_R_some h
    exact nt_iret X dX8_keepAway_111 h
  · have h := ht q2
    refine nt_bipush X dX8_keepAway_7 nt_cb_m2 ?_
    have h := nt_R_some h
    exact nt_iret X dX8_keepAway_9 h
def bNt_send_41 (nr : Nat) (ln : Nat → Nat) (x1 : Int32) (x2 : Int32) (x3 : Int32) (x4 : Int32) (x5 : Int32) (g : nt_T) : Option ((Int32 × Int32 × Int32 × nt_T) ⊕ ((Int32 × Int32 × nt_T))) :=
  (if (4 : Int32) ≤ x5 then
    (some (.inr (x3, x4, g)))
  else
    (nt_gd (nt_in x1 9) <| nt_lt (nt_st g 22 (Int32.toNatClampNeg x1) x5) fun g8 => nt_b2 (fPp_tellableBy nr ln 21 x1 g8) fun r9 g10 => nt_b1 (fJi_bitCount_0f7a4 r9 g10) fun r11 => (if r11 ≤ x4 then
    (nt_lt (x5 + (1 : Int32)) fun v13 => some (.inl (x3, x4, v13, g10)))
  else
    (nt_lt (x5 + (1 : Int32)) fun v14 => some (.inl (x5, r11, v14, g10))))))
set_option maxRecDepth 100000 in
set_option maxHeartbeats 4000000 in
theorem tbNt_send_41 {p : Program} {l : Launch} {e : Env} {s : State} {m : MethodId} {args : Array Value} {below : List Frame} {meth : Method} {c : Code} {w : nt_w} {A : Nat → Prop} {nr : Nat} {ln : Nat → Nat} (hw : nt_isX w)  (hR : nt_isR w nr ln) {Q : State → Prop} (X : nt_X cX8_send 7 RX8 (some .int) w A p s m args meth c) (x1 : Int32) (x2 : Int32)  {Qx : ((Int32 × Int32 × nt_T)) → Prop} (hE0 : ∀ (y3 : Int32) (y4 : Int32) (gy : nt_T), Qx (y3, y4, gy) → nt_G p l e (nt_rm 11) s m args below meth c w A 0 0 Q 7 91 [(0, .ref (nt_a w 0)), (1, .int x1), (2, .int x2), (3, .int y3), (4, .int y4)] [] gy) : ∀ (n : Nat) (x3 : Int32) (x4 : Int32) (x5 : Int32) (g : nt_T), nt_R (nt_it (fun z => bNt_send_41 nr ln x1 x2 z.1 z.2.1 z.2.2.1 z.2.2.2) n (x3, x4, x5, g)) Qx → nt_G p l e (nt_rm 11) s m args below meth c w A 0 0 Q 7 41 [(0, .ref (nt_a w 0)), (1, .int x1), (2, .int x2), (3, .int x3), (4, .int x4), (5, .int x5)] [] g := by
  intro n
  induction n with
  | zero =>
    intro x3 x4 x5 g h
    exact nt_R_none h
  | succ n ih =>
    intro x3 x4 x5 g h
    have h : nt_R (bNt_send_41 nr ln x1 x2 x3 x4 x5 g) (nt_Qz (fun z => bNt_send_41 nr ln x1 x2 z.1 z.2.1 z.2.2.1 z.2.2.2) n Qx) := nt_R_it h
    have hI : ∀ (y3 : Int32) (y4 : Int32) (y5 : Int32) (gy : nt_T), nt_Qz (fun z => bNt_send_41 nr ln x1 x2 z.1 z.2.1 z.2.2.1 z.2.2.2) n Qx (.inl (y3, y4, y5, gy)) → nt_G p l e (nt_rm 11) s m args below meth c w A 0 0 Q 7 41 [(0, .ref (nt_a w 0)), (1, .int x1), (2, .int x2), (3, .int y3), (4, .int y4), (5, .int y5)] [] gy := fun y3 y4 y5 gy q => ih y3 y4 y5 gy q
    have hE0 : ∀ (y3 : Int32) (y4 : Int32) (gy : nt_T), nt_Qz (fun z => bNt_send_41 nr ln x1 x2 z.1 z.2.1 z.2.2.1 z.2.2.2) n Qx (.inr (y3, y4, gy)) → nt_G p l e (nt_rm 11) s m args below meth c w A 0 0 Q 7 91 [(0, .ref (nt_a w 0)), (1, .int x1), (2, .int x2), (3, .int y3), (4, .int y4)] [] gy := hE0
    generalize nt_Qz (fun z => bNt_send_41 nr ln x1 x2 z.1 z.2.1 z.2.2.1 z.2.2.2) n Qx = Qz at h hI hE0
    unfold bNt_send_41 at h
    refine nt_iload X dX8_send_41 5 rfl ?_
    refine nt_iconst X dX8_send_43 nt_ci_4 ?_
    obtain ⟨ht, hf⟩ := nt_R_if h
    refine nt_icmp_ge X 91 dX8_send_44 (by decide) (fun q6 => ?_) (fun q6 => ?_)
    · have h := ht q6
      refine nt_sub [0, 1, 2, 3, 4] rfl ?_
      have h := nt_R_some h
      exact hE0 x3 x4 g h
    · have h := hf q6
      refine nt_aload_n X dX8_send_47 rfl 0 rfl ?_
      refine nt_get X 0 inX8 (nt_lX hw (Nat.le_of_ble_eq_true rfl)) (nt_e0 hw) rfl (j := 4) (by decide) wd_316 (v := .ref (nt_a w 21)) rfl dX8_send_48 ?_
      refine nt_getN X 21 inX0 (nt_lP hw nt_p21 0 (by decide)) (nt_eP hw nt_p21) rfl (j := 2) (by decide) nt_nf12 (v := .ref (nt_a w 22)) rfl dX8_send_51 ?_
      refine nt_iload_n X dX8_send_54 rfl 1 rfl ?_
      refine nt_iload X dX8_send_55 5 rfl ?_
      obtain ⟨q7, h⟩ := nt_R_gd h
      refine nt_iast X 22 0 (nt_lP hw nt_p21 1 (by decide)) (nt_eP1 hw nt_p21) (nt_tX hw) q7 dX8_send_57 ?_
      obtain ⟨g8, eg8, h⟩ := nt_R_lt h
      refine nt_geq eg8 ?_
      refine nt_aload_n X dX8_send_58 rfl 0 rfl ?_
      refine nt_get X 0 inX8 (nt_lX hw (Nat.le_of_ble_eq_true rfl)) (nt_e0 hw) rfl (j := 4) (by decide) wd_316 (v := .ref (nt_a w 21)) rfl dX8_send_59 ?_
      refine nt_iload_n X dX8_send_62 rfl 1 rfl ?_
      obtain ⟨r9, g10, er9, h⟩ := nt_R_b2 h
      refine nt_cVNi X (As := [.int x1]) 21 (nt_lP hw nt_p21 0 (by decide)) (nt_eP hw nt_p21) rfl (cPp_tellableBy hw hR nt_p21 er9) wd_544 nt_nm48 wd_543 wd_1065 wd_13 hd_X0_tellableBy ⟨Nat.le_of_ble_eq_true rfl, Nat.le_of_ble_eq_true rfl⟩ ⟨Nat.le_refl 0, Nat.le_refl 0⟩ (Nat.le_of_ble_eq_true rfl) rfl dX8_send_63 ?_
      obtain ⟨r11, er11, h⟩ := nt_R_b1 h
      refine nt_cSi X (As := [.int r9]) (cJi_bitCount_0f7a4 hw er11) wd_438 wd_498 wd_437 wd_17 hd_J6_bitCount_0f7a4 ⟨Nat.le_of_ble_eq_true rfl, Nat.le_of_ble_eq_true rfl⟩ ⟨Nat.le_refl 0, Nat.le_refl 0⟩ (Nat.le_of_ble_eq_true rfl) rfl dX8_send_66 ?_
      refine nt_istore X [(6, .int r11), (0, .ref (nt_a w 0)), (1, .int x1), (2, .int x2), (3, .int x3), (4, .int x4), (5, .int x5)] dX8_send_69 (by decide) rfl ?_
      refine nt_iload X dX8_send_71 0 rfl ?_
      refine nt_iload X dX8_send_73 5 rfl ?_
      obtain ⟨ht, hf⟩ := nt_R_if h
      refine nt_icmp_le X 85 dX8_send_75 (by decide) (fun q12 => ?_) (fun q12 => ?_)
      · have h := ht q12
        obtain ⟨v13, ev13, h⟩ := nt_R_lt h
        refine nt_iinc X v13 [(5, .int v13), (6, .int r11), (0, .ref (nt_a w 0)), (1, .int x1), (2, .int x2), (3, .int x3), (4, .int x4)] dX8_send_85 6 rfl (by rw [nt_ci_1]; exact ev13) (by decide) rfl ?_
        refine nt_goto X 41 dX8_send_88 (by decide) ?_
        refine nt_sub [2, 3, 4, 5, 6, 0] rfl ?_
        have h := nt_R_some h
        exact hI x3 x4 v13 g10 h
      · have h := hf q12
        refine nt_iload X dX8_send_78 0 rfl ?_
        refine nt_istore X [(4, .int r11), (6, .int r11), (0, .ref (nt_a w 0)), (1, .int x1), (2, .int x2), (3, .int x3), (5, .int x5)] dX8_send_80 (by decide) rfl ?_
        refine nt_iload X dX8_send_82 6 rfl ?_
        refine nt_istore_n X [(3, .int x5), (4, .int r11), (6, .int r11), (0, .ref (nt_a w 0)), (1, .int x1), (2, .int x2), (5, .int x5)] dX8_send_84 rfl (by decide) rfl ?_
        obtain ⟨v14, ev14, h⟩ := nt_R_lt h
        refine nt_iinc X v14 [(5, .int v14), (3, .int x5), (4, .int r11), (6, .int r11), (0, .ref (nt_a w 0)), (1, .int x1), (2, .int x2)] dX8_send_85 6 rfl (by rw [nt_ci_1]; exact ev14) (by decide) rfl ?_
        refine nt_goto X 41 dX8_send_88 (by decide) ?_
        refine nt_sub [4, 5, 6, 1, 2, 0] rfl ?_
        have h := nt_R_some h
        exact hI x5 r11 v14 g10 h
def fNt_send (nr : Nat) (ln : Nat → Nat) (x1 : Int32) (x2 : Int32) (g : nt_T) : Option (Int32 × nt_T) :=
  nt_b1 (fPp_has 14 x1 g) fun r1 => (if r1 = 0 then
    (some ((-2 : Int32), g))
  else
    (nt_b1 (fNt_isBelow x2 (2 : Int32) g) fun r3 => (if r3 = 0 then
    (some ((-2 : Int32), g))
  else
    (nt_b1 (fPp_takeAll 21 14 g) fun g5 => (nt_b1 (nt_it (fun z => bNt_send_41 nr ln x1 x2 z.1 z.2.1 z.2.2.1 z.2.2.2) nt_fu ((-1 : Int32), (-1 : Int32), (0 : Int32), g5)) fun z19 => match z19 with
  | (v15, v16, g17) => (if x2 = 0 then
    (some (v15, g17))
  else
    (some (v16, g17))))))))
set_option maxRecDepth 100000 in
set_option maxHeartbeats 4000000 in
theorem cNt_send {l : Launch} {w : nt_w} (hw : nt_isX w) {nr : Nat} {ln : Nat → Nat}  (hR : nt_isR w nr ln) {x1 : Int32} {x2 : Int32} {g : nt_T} {r : Int32} {g2 : nt_T} (hf : fNt_send nr ln x1 x2 g = some (r, g2)) : nt_Mi l w yX8_send cX8_send 7 (some .int) 11 [.ref (nt_a w 0), .int x1, .int x2] g r g2 := by
  refine nt_Mi_of (by decide) (Nat.le_of_ble_eq_true rfl) (fun p e s m args below meth c A X => ?_)
  have X : nt_X cX8_send 7 RX8 (some .int) w A p s m args meth c := X
  have h : nt_R (fNt_send nr ln x1 x2 g) (fun z => z = (r, g2)) := ⟨_, hf, rfl⟩
  unfold fNt_send at h
  show nt_G p l e (nt_rm 11) s m args below meth c w A 0 0 (nt_Qi w A below args s r g2) 7 0 [(0, .ref (nt_a w 0)), (1, .int x1), (2, .int x2)] [] g
  refine nt_aload_n X dX8_send_0 rfl 0 rfl ?_
  refine nt_get X 0 inX8 (nt_lX hw (Nat.le_of_ble_eq_true rfl)) (nt_e0 hw) rfl (j := 3) (by decide) wd_315 (v := .ref (nt_a w 14)) rfl dX8_send_1 ?_
  refine nt_iload_n X dX8_send_4 rfl 1 rfl ?_
  obtain ⟨r1, er1, h⟩ := nt_R_b1 h
  refine nt_cVNi X (As := [.int x1]) 14 (nt_lP hw nt_p14 0 (by decide)) (nt_eP hw nt_p14) rfl (cPp_has hw nt_p14 er1) wd_365 nt_nm18 wd_364 wd_1030 wd_13 hd_X0_has ⟨Nat.le_of_ble_eq_true rfl, Nat.le_of_ble_eq_true rfl⟩ ⟨Nat.le_refl 0, Nat.le_refl 0⟩ (Nat.le_of_ble_eq_true rfl) rfl dX8_send_5 ?_
  obtain ⟨ht, hf⟩ := nt_R_if h
  refine nt_if_eq X 19 dX8_send_8 (by decide) (fun q2 => ?_) (fun q2 => ?_)
  · have h := ht q2
    refine nt_bipush X dX8_send_19 nt_cb_m2 ?_
    have h := nt_R_some h
    exact nt_iret X dX8_send_21 h
  · have h := hf q2
    refine nt_iload_n X dX8_send_11 rfl 2 rfl ?_
    refine nt_iconst X dX8_send_12 nt_ci_2 ?_
    obtain ⟨r3, er3, h⟩ := nt_R_b1 h
    refine nt_cSi X (As := [.int x2, .int (2 : Int32)]) (cNt_isBelow hw er3) wd_336 wd_334 wd_335 wd_1 hd_X8_isBelow ⟨Nat.le_of_ble_eq_true rfl, Nat.le_of_ble_eq_true rfl⟩ ⟨Nat.le_refl 0, Nat.le_refl 0⟩ (Nat.le_of_ble_eq_true rfl) rfl dX8_send_13 ?_
    obtain ⟨ht, hf⟩ := nt_R_if h
    refine nt_if_ne X 22 dX8_send_16 (by decide) (fun q4 => ?_) (fun q4 => ?_)
    · have h := hf q4
      refine nt_aload_n X dX8_send_22 rfl 0 rfl ?_
      refine nt_get X 0 inX8 (nt_lX hw (Nat.le_of_ble_eq_true rfl)) (nt_e0 hw) rfl (j := 4) (by decide) wd_316 (v := .ref (nt_a w 21)) rfl dX8_send_23 ?_
      refine nt_aload_n X dX8_send_26 rfl 0 rfl ?_
      refine nt_get X 0 inX8 (nt_lX hw (Nat.le_of_ble_eq_true rfl)) (nt_e0 hw) rfl (j := 3) (by decide) wd_315 (v := .ref (nt_a w 14)) rfl dX8_send_27 ?_
      obtain ⟨g5, eg5, h⟩ := nt_R_b1 h
      refine nt_cVNv X (As := [.ref (nt_a w 14)]) 21 (nt_lP hw nt_p21 0 (by decide)) (nt_eP hw nt_p21) rfl (cPp_takeAll hw nt_p21 nt_p14 eg5) wd_503 nt_nm42 wd_502 wd_1056 wd_13 hd_X0_takeAll ⟨Nat.le_of_ble_eq_true rfl, Nat.le_of_ble_eq_true rfl⟩ ⟨Nat.le_refl 0, Nat.le_refl 0⟩ (Nat.le_of_ble_eq_true rfl) rfl dX8_send_30 ?_
      refine nt_iconst X dX8_send_33 nt_ci_m1 ?_
      refine nt_istore_n X [(3, .int (-1 : Int32)), (0, .ref (nt_a w 0)), (1, .int x1), (2, .int x2)] dX8_send_34 rfl (by decide) rfl ?_
      refine nt_iconst X dX8_send_35 nt_ci_m1 ?_
      refine nt_istore X [(4, .int (-1 : Int32)), (3, .int (-1 : Int32)), (0, .ref (nt_a w 0)), (1, .int x1), (2, .int x2)] dX8_send_36 (by decide) rfl ?_
      refine nt_iconst X dX8_send_38 nt_ci_0 ?_
      refine nt_istore X [(5, .int (0 : Int32)), (4, .int (-1 : Int32)), (3, .int (-1 : Int32)), (0, .ref (nt_a w 0)), (1, .int x1), (2, .int x2)] dX8_send_39 (by decide) rfl ?_
      obtain ⟨z19, hz19, h⟩ := nt_R_b1 h
      refine nt_sub [3, 4, 5, 2, 1, 0] rfl ?_
      refine tbNt_send_41 hw  hR X x1 x2 (Qx := fun z => z = z19) (fun v15 v16 g17 hq => ?_) nt_fu (-1 : Int32) (-1 : Int32) (0 : Int32) g5 ⟨_, hz19, rfl⟩
      subst hq
      refine nt_iload_n X dX8_send_91 rfl 2 rfl ?_
      obtain ⟨ht, hf⟩ := nt_R_if h
      refine nt_if_ne X 99 dX8_send_92 (by decide) (fun q18 => ?_) (fun q18 => ?_)
      · have h := hf q18
        refine nt_iload X dX8_send_99 4 rfl ?_
        have h := nt_R_some h
        exact nt_iret X dX8_send_101 h
      · have h := ht q18
        refine nt_iload_n X dX8_send_95 rfl 3 rfl ?_
        refine nt_goto X 101 dX8_send_96 (by decide) ?_
        have h := nt_R_some h
        exact nt_iret X dX8_send_101 h
    · have h := ht q4
      refine nt_bipush X dX8_send_19 nt_cb_m2 ?_
      have h := nt_R_some h
      exact nt_iret X dX8_send_21 h
def fNt_stranger (nr : Nat) (ln : Nat → Nat) (x1 : Int32) (x2 : Int32) (x3 : Int32) (g : nt_T) : Option (Int32 × nt_T) :=
  nt_b1 (fNt_isHouse x1 g) fun r1 => (if r1 = 0 then
    (some ((-2 : Int32), g))
  else
    (nt_b1 (fNt_isBelow x2 (100 : Int32) g) fun r3 => (if r3 = 0 then
    (some ((-2 : Int32), g))
  else
    (nt_b1 (fNt_isBelow x3 (256 : Int32) g) fun r5 => (if r5 = 0 then
    (some ((-2 : Int32), g))
  else
    (nt_b1 (fPp_takeAll 21 14 g) fun g7 => nt_b1 (fPp_sit 21 x1 x2 x3 g7) fun g8 => nt_b2 (fPp_tellableIn nr ln 21 x1 g8) fun r9 g10 => nt_b1 (fJi_bitCount_0f7a4 r9 g10) fun r11 => nt_b2 (fPp_tellableIn nr ln 14 x1 g10) fun r12 g13 => nt_b1 (fJi_bitCount_0f7a4 r12 g13) fun r14 => some ((r11 - r14), g13)))))))
set_option maxRecDepth 100000 in
set_option maxHeartbeats 4000000 in
theorem cNt_stranger {l : Launch} {w : nt_w} (hw : nt_isX w) {nr : Nat} {ln : Nat → Nat}  (hR : nt_isR w nr ln) {x1 : Int32} {x2 : Int32} {x3 : Int32} {g : nt_T} {r : Int32} {g2 : nt_T} (hf : fNt_stranger nr ln x1 x2 x3 g = some (r, g2)) : nt_Mi l w yX8_stranger cX8_stranger 4 (some .int) 11 [.ref (nt_a w 0), .int x1, .int x2, .int x3] g r g2 := by
  refine nt_Mi_of (by decide) (Nat.le_of_ble_eq_true rfl) (fun p e s m args below meth c A X => ?_)
  have X : nt_X cX8_stranger 4 RX8 (some .int) w A p s m args meth c := X
  have h : nt_R (fNt_stranger nr ln x1 x2 x3 g) (fun z => z = (r, g2)) := ⟨_, hf, rfl⟩
  unfold fNt_stranger at h
  show nt_G p l e (nt_rm 11) s m args below meth c w A 0 0 (nt_Qi w A below args s r g2) 4 0 [(0, .ref (nt_a w 0)), (1, .int x1), (2, .int x2), (3, .int x3)] [] g
  refine nt_iload_n X dX8_stranger_0 rfl 1 rfl ?_
  obtain ⟨r1, er1, h⟩ := nt_R_b1 h
  refine nt_cSi X (As := [.int x1]) (cNt_isHouse hw er1) wd_368 wd_366 wd_367 wd_1 hd_X8_isHouse ⟨Nat.le_of_ble_eq_true rfl, Nat.le_of_ble_eq_true rfl⟩ ⟨Nat.le_refl 0, Nat.le_refl 0⟩ (Nat.le_of_ble_eq_true rfl) rfl dX8_stranger_1 ?_
  obtain ⟨ht, hf⟩ := nt_R_if h
  refine nt_if_eq X 26 dX8_stranger_4 (by decide) (fun q2 => ?_) (fun q2 => ?_)
  · have h := ht q2
    refine nt_bipush X dX8_stranger_26 nt_cb_m2 ?_
    have h := nt_R_some h
    exact nt_iret X dX8_stranger_28 h
  · have h := hf q2
    refine nt_iload_n X dX8_stranger_7 rfl 2 rfl ?_
    refine nt_bipush X dX8_stranger_8 nt_cb_100 ?_
    obtain ⟨r3, er3, h⟩ := nt_R_b1 h
    refine nt_cSi X (As := [.int x2, .int (100 : Int32)]) (cNt_isBelow hw er3) wd_336 wd_334 wd_335 wd_1 hd_X8_isBelow ⟨Nat.le_of_ble_eq_true rfl, Nat.le_of_ble_eq_true rfl⟩ ⟨Nat.le_refl 0, Nat.le_refl 0⟩ (Nat.le_of_ble_eq_true rfl) rfl dX8_stranger_10 ?_
    obtain ⟨ht, hf⟩ := nt_R_if h
    refine nt_if_eq X 26 dX8_stranger_13 (by decide) (fun q4 => ?_) (fun q4 => ?_)
    · have h := ht q4
      refine nt_bipush X dX8_stranger_26 nt_cb_m2 ?_
      have h := nt_R_some h
      exact nt_iret X dX8_stranger_28 h
    · have h := hf q4
      refine nt_iload_n X dX8_stranger_16 rfl 3 rfl ?_
      refine nt_sipush X dX8_stranger_17 nt_cs_256 ?_
      obtain ⟨r5, er5, h⟩ := nt_R_b1 h
      refine nt_cSi X (As := [.int x3, .int (256 : Int32)]) (cNt_isBelow hw er5) wd_336 wd_334 wd_335 wd_1 hd_X8_isBelow ⟨Nat.le_of_ble_eq_true rfl, Nat.le_of_ble_eq_true rfl⟩ ⟨Nat.le_refl 0, Nat.le_refl 0⟩ (Nat.le_of_ble_eq_true rfl) rfl dX8_stranger_20 ?_
      obtain ⟨ht, hf⟩ := nt_R_if h
      refine nt_if_ne X 29 dX8_stranger_23 (by decide) (fun q6 => ?_) (fun q6 => ?_)
      · have h := hf q6
        refine nt_aload_n X dX8_stranger_29 rfl 0 rfl ?_
        refine nt_get X 0 inX8 (nt_lX hw (Nat.le_of_ble_eq_true rfl)) (nt_e0 hw) rfl (j := 4) (by decide) wd_316 (v := .ref (nt_a w 21)) rfl dX8_stranger_30 ?_
        refine nt_aload_n X dX8_stranger_33 rfl 0 rfl ?_
        refine nt_get X 0 inX8 (nt_lX hw (Nat.le_of_ble_eq_true rfl)) (nt_e0 hw) rfl (j := 3) (by decide) wd_315 (v := .ref (nt_a w 14)) rfl dX8_stranger_34 ?_
        obtain ⟨g7, eg7, h⟩ := nt_R_b1 h
        refine nt_cVNv X (As := [.ref (nt_a w 14)]) 21 (nt_lP hw nt_p21 0 (by decide)) (nt_eP hw nt_p21) rfl (cPp_takeAll hw nt_p21 nt_p14 eg7) wd_503 nt_nm42 wd_502 wd_1056 wd_13 hd_X0_takeAll ⟨Nat.le_of_ble_eq_true rfl, Nat.le_of_ble_eq_true rfl⟩ ⟨Nat.le_refl 0, Nat.le_refl 0⟩ (Nat.le_of_ble_eq_true rfl) rfl dX8_stranger_37 ?_
        refine nt_aload_n X dX8_stranger_40 rfl 0 rfl ?_
        refine nt_get X 0 inX8 (nt_lX hw (Nat.le_of_ble_eq_true rfl)) (nt_e0 hw) rfl (j := 4) (by decide) wd_316 (v := .ref (nt_a w 21)) rfl dX8_stranger_41 ?_
        refine nt_iload_n X dX8_stranger_44 rfl 1 rfl ?_
        refine nt_iload_n X dX8_stranger_45 rfl 2 rfl ?_
        refine nt_iload_n X dX8_stranger_46 rfl 3 rfl ?_
        obtain ⟨g8, eg8, h⟩ := nt_R_b1 h
        refine nt_cVNv X (As := [.int x1, .int x2, .int x3]) 21 (nt_lP hw nt_p21 0 (by decide)) (nt_eP hw nt_p21) rfl (cPp_sit hw nt_p21 eg8) wd_359 nt_nm49 wd_358 wd_1029 wd_13 hd_X0_sit ⟨Nat.le_of_ble_eq_true rfl, Nat.le_of_ble_eq_true rfl⟩ ⟨Nat.le_refl 0, Nat.le_refl 0⟩ (Nat.le_of_ble_eq_true rfl) rfl dX8_stranger_47 ?_
        refine nt_aload_n X dX8_stranger_50 rfl 0 rfl ?_
        refine nt_get X 0 inX8 (nt_lX hw (Nat.le_of_ble_eq_true rfl)) (nt_e0 hw) rfl (j := 4) (by decide) wd_316 (v := .ref (nt_a w 21)) rfl dX8_stranger_51 ?_
        refine nt_iload_n X dX8_stranger_54 rfl 1 rfl ?_
        obtain ⟨r9, g10, er9, h⟩ := nt_R_b2 h
        refine nt_cVNi X (As := [.int x1]) 21 (nt_lP hw nt_p21 0 (by decide)) (nt_eP hw nt_p21) rfl (cPp_tellableIn hw hR nt_p21 er9) wd_418 nt_nm30 wd_417 wd_1039 wd_13 hd_X0_tellableIn ⟨Nat.le_of_ble_eq_true rfl, Nat.le_of_ble_eq_true rfl⟩ ⟨Nat.le_refl 0, Nat.le_refl 0⟩ (Nat.le_of_ble_eq_true rfl) rfl dX8_stranger_55 ?_
        obtain ⟨r11, er11, h⟩ := nt_R_b1 h
        refine nt_cSi X (As := [.int r9]) (cJi_bitCount_0f7a4 hw er11) wd_438 wd_498 wd_437 wd_17 hd_J6_bitCount_0f7a4 ⟨Nat.le_of_ble_eq_true rfl, Nat.le_of_ble_eq_true rfl⟩ ⟨Nat.le_refl 0, Nat.le_refl 0⟩ (Nat.le_of_ble_eq_true rfl) rfl dX8_stranger_58 ?_
        refine nt_aload_n X dX8_stranger_61 rfl 0 rfl ?_
        refine nt_get X 0 inX8 (nt_lX hw (Nat.le_of_ble_eq_true rfl)) (nt_e0 hw) rfl (j := 3) (by decide) wd_315 (v := .ref (nt_a w 14)) rfl dX8_stranger_62 ?_
        refine nt_iload_n X dX8_stranger_65 rfl 1 rfl ?_
        obtain ⟨r12, g13, er12, h⟩ := nt_R_b2 h
        refine nt_cVNi X (As := [.int x1]) 14 (nt_lP hw nt_p14 0 (by decide)) (nt_eP hw nt_p14) rfl (cPp_tellableIn hw hR nt_p14 er12) wd_418 nt_nm30 wd_417 wd_1039 wd_13 hd_X0_tellableIn ⟨Nat.le_of_ble_eq_true rfl, Nat.le_of_ble_eq_true rfl⟩ ⟨Nat.le_refl 0, Nat.le_refl 0⟩ (Nat.le_of_ble_eq_true rfl) rfl dX8_stranger_66 ?_
        obtain ⟨r14, er14, h⟩ := nt_R_b1 h
        refine nt_cSi X (As := [.int r12]) (cJi_bitCount_0f7a4 hw er14) wd_438 wd_498 wd_437 wd_17 hd_J6_bitCount_0f7a4 ⟨Nat.le_of_ble_eq_true rfl, Nat.le_of_ble_eq_true rfl⟩ ⟨Nat.le_refl 0, Nat.le_refl 0⟩ (Nat.le_of_ble_eq_true rfl) rfl dX8_stranger_69 ?_
        refine nt_isub X dX8_stranger_72 ?_
        have h := nt_R_some h
        exact nt_iret X dX8_stranger_73 h
      · have h := ht q6
        refine nt_bipush X dX8_stranger_26 nt_cb_m2 ?_
        have h := nt_R_some h
        exact nt_iret X dX8_stranger_28 h
def bNt_left_4 (g : nt_T) (x1 : Int32) (x2 : Int32) : Option ((Int32 × Int32) ⊕ ((Int32))) :=
  (if (g 14 7) ≤ x2 then
    (some (.inr x1))
  else
    (nt_b1 (fPp_knows 14 x2 g) fun r2 => nt_lt (x1 ||| r2) fun v3 => nt_lt (x2 + (1 : Int32)) fun v4 => some (.inl (v3, v4))))
set_option maxRecDepth 100000 in
set_option maxHeartbeats 4000000 in
theorem tbNt_left_4 {p : Program} {l : Launch} {e : Env} {s : State} {m : MethodId} {args : Array Value} {below : List Frame} {meth : Method} {c : Code} {w : nt_w} {A : Nat → Prop} (hw : nt_isX w) {Q : State → Prop} (X : nt_X cX8_left 3 RX8 (some .int) w A p s m args meth c) (g : nt_T)  {Qx : ((Int32)) → Prop} (hE0 : ∀ (y1 : Int32), Qx y1 → nt_G p l e (nt_rm 5) s m args below meth c w A 0 0 Q 3 32 [(0, .ref (nt_a w 0)), (1, .int y1)] [] g) : ∀ (n : Nat) (x1 : Int32) (x2 : Int32), nt_R (nt_it (fun z => bNt_left_4 g z.1 z.2) n (x1, x2)) Qx → nt_G p l e (nt_rm 5) s m args below meth c w A 0 0 Q 3 4 [(0, .ref (nt_a w 0)), (1, .int x1), (2, .int x2)] [] g := by
  intro n
  induction n with
  | zero =>
    intro x1 x2 h
    exact nt_R_none h
  | succ n ih =>
    intro x1 x2 h
    have h : nt_R (bNt_left_4 g x1 x2) (nt_Qz (fun z => bNt_left_4 g z.1 z.2) n Qx) := nt_R_it h
    have hI : ∀ (y1 : Int32) (y2 : Int32), nt_Qz (fun z => bNt_left_4 g z.1 z.2) n Qx (.inl (y1, y2)) → nt_G p l e (nt_rm 5) s m args below meth c w A 0 0 Q 3 4 [(0, .ref (nt_a w 0)), (1, .int y1), (2, .int y2)] [] g := fun y1 y2 q => ih y1 y2 q
    have hE0 : ∀ (y1 : Int32), nt_Qz (fun z => bNt_left_4 g z.1 z.2) n Qx (.inr y1) → nt_G p l e (nt_rm 5) s m args below meth c w A 0 0 Q 3 32 [(0, .ref (nt_a w 0)), (1, .int y1)] [] g := hE0
    generalize nt_Qz (fun z => bNt_left_4 g z.1 z.2) n Qx = Qz at h hI hE0
    unfold bNt_left_4 at h
    refine nt_iload_n X dX8_left_4 rfl 2 rfl ?_
    refine nt_aload_n X dX8_left_5 rfl 0 rfl ?_
    refine nt_get X 0 inX8 (nt_lX hw (Nat.le_of_ble_eq_true rfl)) (nt_e0 hw) rfl (j := 3) (by decide) wd_315 (v := .ref (nt_a w 14)) rfl dX8_left_6 ?_
    refine nt_getN X 14 inX0 (nt_lP hw nt_p14 0 (by decide)) (nt_eP hw nt_p14) rfl (j := 7) (by decide) nt_nf18 (v := .int (g 14 7)) rfl dX8_left_9 ?_
    obtain ⟨ht, hf⟩ := nt_R_if h
    refine nt_icmp_ge X 32 dX8_left_12 (by decide) (fun q1 => ?_) (fun q1 => ?_)
    · have h := ht q1
      refine nt_sub [0, 1] rfl ?_
      have h := nt_R_some h
      exact hE0 x1 h
    · have h := hf q1
      refine nt_iload_n X dX8_left_15 rfl 1 rfl ?_
      refine nt_aload_n X dX8_left_16 rfl 0 rfl ?_
      refine nt_get X 0 inX8 (nt_lX hw (Nat.le_of_ble_eq_true rfl)) (nt_e0 hw) rfl (j := 3) (by decide) wd_315 (v := .ref (nt_a w 14)) rfl dX8_left_17 ?_
      refine nt_iload_n X dX8_left_20 rfl 2 rfl ?_
      obtain ⟨r2, er2, h⟩ := nt_R_b1 h
      refine nt_cVNi X (As := [.int x2]) 14 (nt_lP hw nt_p14 0 (by decide)) (nt_eP hw nt_p14) rfl (cPp_knows hw nt_p14 er2) wd_394 nt_nm23 wd_393 wd_1035 wd_13 hd_X0_knows ⟨Nat.le_of_ble_eq_true rfl, Nat.le_of_ble_eq_true rfl⟩ ⟨Nat.le_refl 0, Nat.le_refl 0⟩ (Nat.le_of_ble_eq_true rfl) rfl dX8_left_21 ?_
      refine nt_ior X dX8_left_24 ?_
      obtain ⟨v3, ev3, h⟩ := nt_R_lt h
      refine nt_topi ev3 ?_
      refine nt_istore_n X [(1, .int v3), (0, .ref (nt_a w 0)), (2, .int x2)] dX8_left_25 rfl (by decide) rfl ?_
      obtain ⟨v4, ev4, h⟩ := nt_R_lt h
      refine nt_iinc X v4 [(2, .int v4), (1, .int v3), (0, .ref (nt_a w 0))] dX8_left_26 2 rfl (by rw [nt_ci_1]; exact ev4) (by decide) rfl ?_
      refine nt_goto X 4 dX8_left_29 (by decide) ?_
      refine nt_sub [2, 1, 0] rfl ?_
      have h := nt_R_some h
      exact hI v3 v4 h
def fNt_left (g : nt_T) : Option (Int32) :=
  (nt_b1 (nt_it (fun z => bNt_left_4 g z.1 z.2) nt_fu ((0 : Int32), (0 : Int32))) fun v5 => nt_b1 (fSh_all g) fun r6 => some (r6 &&& (v5 ^^^ (-1 : Int32))))
set_option maxRecDepth 100000 in
set_option maxHeartbeats 4000000 in
theorem cNt_left {l : Launch} {w : nt_w} (hw : nt_isX w) {g : nt_T} {r : Int32} (hf : fNt_left g = some r) : nt_Mi l w yX8_left cX8_left 3 (some .int) 5 [.ref (nt_a w 0)] g r g := by
  refine nt_Mi_of (by decide) (Nat.le_of_ble_eq_true rfl) (fun p e s m args below meth c A X => ?_)
  have X : nt_X cX8_left 3 RX8 (some .int) w A p s m args meth c := X
  have hg : g = g := rfl
  have h : nt_R (fNt_left g) (fun z => z = r) := ⟨_, hf, rfl⟩
  unfold fNt_left at h
  show nt_G p l e (nt_rm 5) s m args below meth c w A 0 0 (nt_Qi w A below args s r g) 3 0 [(0, .ref (nt_a w 0))] [] g
  refine nt_iconst X dX8_left_0 nt_ci_0 ?_
  refine nt_istore_n X [(1, .int (0 : Int32)), (0, .ref (nt_a w 0))] dX8_left_1 rfl (by decide) rfl ?_
  refine nt_iconst X dX8_left_2 nt_ci_0 ?_
  refine nt_istore_n X [(2, .int (0 : Int32)), (1, .int (0 : Int32)), (0, .ref (nt_a w 0))] dX8_left_3 rfl (by decide) rfl ?_
  obtain ⟨z7, hz7, h⟩ := nt_R_b1 h
  refine nt_sub [2, 1, 0] rfl ?_
  refine tbNt_left_4 hw X g (Qx := fun z => z = z7) (fun v5 hq => ?_) nt_fu (0 : Int32) (0 : Int32) ⟨_, hz7, rfl⟩
  subst hq
  refine nt_aload_n X dX8_left_32 rfl 0 rfl ?_
  refine nt_get X 0 inX8 (nt_lX hw (Nat.le_of_ble_eq_true rfl)) (nt_e0 hw) rfl (j := 0) (by decide) wd_312 (v := .ref (nt_a w 1)) rfl dX8_left_33 ?_
  obtain ⟨r6, er6, h⟩ := nt_R_b1 h
  refine nt_cVNi X (As := []) 1 (nt_lX hw (Nat.le_of_ble_eq_true rfl)) (nt_e1 hw) rfl (cSh_all hw er6) wd_430 nt_nm50 wd_429 wd_1043 wd_2 hd_X5_all ⟨Nat.le_of_ble_eq_true rfl, Nat.le_of_ble_eq_true rfl⟩ ⟨Nat.le_refl 0, Nat.le_refl 0⟩ (Nat.le_of_ble_eq_true rfl) rfl dX8_left_36 ?_
  refine nt_iload_n X dX8_left_39 rfl 1 rfl ?_
  refine nt_iconst X dX8_left_40 nt_ci_m1 ?_
  refine nt_ixor X dX8_left_41 ?_
  refine nt_iand X dX8_left_42 ?_
  have h := nt_R_some h
  exact nt_iret X dX8_left_43 (nt_pe h hg)
def bNt_judge_58 (nr : Nat) (ln : Nat → Nat) (x1 : Int32) (x2 : Int32) (g : nt_T) : Option ((Int32 × nt_T) ⊕ ((Int32 × nt_T) ⊕ (nt_T))) :=
  nt_gd (nt_in x1 4) <| (if (g 45 (Int32.toNatClampNeg x1)) ≤ (x2 + (1 : Int32)) then
    (some (.inr (.inr g)))
  else
    (nt_b1 (fSs_at x1 x2 g) fun r11 => nt_b1 (fSs_at x1 (x2 + (1 : Int32)) g) fun r12 => nt_b1 (fNt_isHouse r11 g) fun r13 => (if r13 = 0 then
    (some (.inr (.inl (x2, g))))
  else
    (nt_b1 (fSh_has r12 g) fun r15 => (if r15 = 0 then
    (some (.inr (.inl (x2, g))))
  else
    (nt_b2 (fPp_spend nr ln 21 r11 r12 g) fun r17 g18 => (if r17 = (-3 : Int32) then
    (some (.inr (.inl (x2, g18))))
  else
    (nt_lt (x2 + (2 : Int32)) fun v20 => some (.inl (v20, g18))))))))))
set_option maxRecDepth 100000 in
set_option maxHeartbeats 4000000 in
theorem tbNt_judge_58 {p : Program} {l : Launch} {e : Env} {s : State} {m : MethodId} {args : Array Value} {below : List Frame} {meth : Method} {c : Code} {w : nt_w} {A : Nat → Prop} {nr : Nat} {ln : Nat → Nat} (hw : nt_isX w)  (hR : nt_isR w nr ln) {Q : State → Prop} (X : nt_X cX8_judge 5 RX8 (some .int) w A p s m args meth c) (x1 : Int32)  {Qx : ((Int32 × nt_T) ⊕ (nt_T)) → Prop} (hE0 : ∀ (y2 : Int32) (gy : nt_T), Qx (.inl (y2, gy)) → nt_G p l e (nt_rm 13) s m args below meth c w A 0 0 Q 5 130 [(0, .ref (nt_a w 0)), (1, .int x1), (2, .int y2)] [] gy) (hE1 : ∀ (gy : nt_T), Qx (.inr gy) → nt_G p l e (nt_rm 13) s m args below meth c w A 0 0 Q 5 140 [(0, .ref (nt_a w 0)), (1, .int x1)] [] gy) : ∀ (n : Nat) (x2 : Int32) (g : nt_T), nt_R (nt_it (fun z => bNt_judge_58 nr ln x1 z.1 z.2) n (x2, g)) Qx → nt_G p l e (nt_rm 13) s m args below meth c w A 0 0 Q 5 58 [(0, .ref (nt_a w 0)), (1, .int x1), (2, .int x2)] [] g := by
  intro n
  induction n with
  | zero =>
    intro x2 g h
    exact nt_R_none h
  | succ n ih =>
    intro x2 g h
    have h : nt_R (bNt_judge_58 nr ln x1 x2 g) (nt_Qz (fun z => bNt_judge_58 nr ln x1 z.1 z.2) n Qx) := nt_R_it h
    have hI : ∀ (y2 : Int32) (gy : nt_T), nt_Qz (fun z => bNt_judge_58 nr ln x1 z.1 z.2) n Qx (.inl (y2, gy)) → nt_G p l e (nt_rm 13) s m args below meth c w A 0 0 Q 5 58 [(0, .ref (nt_a w 0)), (1, .int x1), (2, .int y2)] [] gy := fun y2 gy q => ih y2 gy q
    have hE0 : ∀ (y2 : Int32) (gy : nt_T), nt_Qz (fun z => bNt_judge_58 nr ln x1 z.1 z.2) n Qx (.inr (.inl (y2, gy))) → nt_G p l e (nt_rm 13) s m args below meth c w A 0 0 Q 5 130 [(0, .ref (nt_a w 0)), (1, .int x1), (2, .int y2)] [] gy := hE0
    have hE1 : ∀ (gy : nt_T), nt_Qz (fun z => bNt_judge_58 nr ln x1 z.1 z.2) n Qx (.inr (.inr gy)) → nt_G p l e (nt_rm 13) s m args below meth c w A 0 0 Q 5 140 [(0, .ref (nt_a w 0)), (1, .int x1)] [] gy := hE1
    generalize nt_Qz (fun z => bNt_judge_58 nr ln x1 z.1 z.2) n Qx = Qz at h hI hE0 hE1
    unfold bNt_judge_58 at h
    refine nt_iload_n X dX8_judge_58 rfl 2 rfl ?_
    refine nt_iconst X dX8_judge_59 nt_ci_1 ?_
    refine nt_iadd X dX8_judge_60 ?_
    refine nt_aload_n X dX8_judge_61 rfl 0 rfl ?_
    refine nt_get X 0 inX8 (nt_lX hw (Nat.le_of_ble_eq_true rfl)) (nt_e0 hw) rfl (j := 7) (by decide) wd_319 (v := .ref (nt_a w 43)) rfl dX8_judge_62 ?_
    refine nt_getN X 43 inX4 (nt_lX hw (Nat.le_of_ble_eq_true rfl)) (nt_e43 hw) rfl (j := 1) (by decide) nt_nf24 (v := .ref (nt_a w 45)) rfl dX8_judge_65 ?_
    refine nt_iload_n X dX8_judge_68 rfl 1 rfl ?_
    obtain ⟨q9, h⟩ := nt_R_gd h
    refine nt_iald X 45 0 (nt_lX hw (Nat.le_of_ble_eq_true rfl)) (nt_e45 hw) (nt_tX hw) q9 dX8_judge_69 ?_
    obtain ⟨ht, hf⟩ := nt_R_if h
    refine nt_icmp_ge X 140 dX8_judge_70 (by decide) (fun q10 => ?_) (fun q10 => ?_)
    · have h := ht q10
      refine nt_sub [0, 1] rfl ?_
      have h := nt_R_some h
      exact hE1 g h
    · have h := hf q10
      refine nt_aload_n X dX8_judge_73 rfl 0 rfl ?_
      refine nt_get X 0 inX8 (nt_lX hw (Nat.le_of_ble_eq_true rfl)) (nt_e0 hw) rfl (j := 7) (by decide) wd_319 (v := .ref (nt_a w 43)) rfl dX8_judge_74 ?_
      refine nt_iload_n X dX8_judge_77 rfl 1 rfl ?_
      refine nt_iload_n X dX8_judge_78 rfl 2 rfl ?_
      obtain ⟨r11, er11, h⟩ := nt_R_b1 h
      refine nt_cVNi X (As := [.int x1, .int x2]) 43 (nt_lX hw (Nat.le_of_ble_eq_true rfl)) (nt_e43 hw) rfl (cSs_at hw er11) wd_562 nt_nm54 wd_561 wd_1068 wd_15 hd_X4_at ⟨Nat.le_of_ble_eq_true rfl, Nat.le_of_ble_eq_true rfl⟩ ⟨Nat.le_refl 0, Nat.le_refl 0⟩ (Nat.le_of_ble_eq_true rfl) rfl dX8_judge_79 ?_
      refine nt_istore_n X [(3, .int r11), (0, .ref (nt_a w 0)), (1, .int x1), (2, .int x2)] dX8_judge_82 rfl (by decide) rfl ?_
      refine nt_aload_n X dX8_judge_83 rfl 1 rfl ?_
      refine nt_get X 0 inX8 (nt_lX hw (Nat.le_of_ble_eq_true rfl)) (nt_e0 hw) rfl (j := 7) (by decide) wd_319 (v := .ref (nt_a w 43)) rfl dX8_judge_84 ?_
      refine nt_iload_n X dX8_judge_87 rfl 2 rfl ?_
      refine nt_iload_n X dX8_judge_88 rfl 3 rfl ?_
      refine nt_iconst X dX8_judge_89 nt_ci_1 ?_
      refine nt_iadd X dX8_judge_90 ?_
      obtain ⟨r12, er12, h⟩ := nt_R_b1 h
      refine nt_cVNi X (As := [.int x1, .int (x2 + (1 : Int32))]) 43 (nt_lX hw (Nat.le_of_ble_eq_true rfl)) (nt_e43 hw) rfl (cSs_at hw er12) wd_562 nt_nm54 wd_561 wd_1068 wd_15 hd_X4_at ⟨Nat.le_of_ble_eq_true rfl, Nat.le_of_ble_eq_true rfl⟩ ⟨Nat.le_refl 0, Nat.le_refl 0⟩ (Nat.le_of_ble_eq_true rfl) rfl dX8_judge_91 ?_
      refine nt_istore X [(4, .int r12), (3, .int r11), (0, .ref (nt_a w 0)), (1, .int x1), (2, .int x2)] dX8_judge_94 (by decide) rfl ?_
      refine nt_iload_n X dX8_judge_96 rfl 1 rfl ?_
      obtain ⟨r13, er13, h⟩ := nt_R_b1 h
      refine nt_cSi X (As := [.int r11]) (cNt_isHouse hw er13) wd_368 wd_366 wd_367 wd_1 hd_X8_isHouse ⟨Nat.le_of_ble_eq_true rfl, Nat.le_of_ble_eq_true rfl⟩ ⟨Nat.le_refl 0, Nat.le_refl 0⟩ (Nat.le_of_ble_eq_true rfl) rfl dX8_judge_97 ?_
      obtain ⟨ht, hf⟩ := nt_R_if h
      refine nt_if_eq X 130 dX8_judge_100 (by decide) (fun q14 => ?_) (fun q14 => ?_)
      · have h := ht q14
        refine nt_sub [2, 3, 4] rfl ?_
        have h := nt_R_some h
        exact hE0 x2 g h
      · have h := hf q14
        refine nt_aload_n X dX8_judge_103 rfl 2 rfl ?_
        refine nt_get X 0 inX8 (nt_lX hw (Nat.le_of_ble_eq_true rfl)) (nt_e0 hw) rfl (j := 0) (by decide) wd_312 (v := .ref (nt_a w 1)) rfl dX8_judge_104 ?_
        refine nt_iload X dX8_judge_107 0 rfl ?_
        obtain ⟨r15, er15, h⟩ := nt_R_b1 h
        refine nt_cVNi X (As := [.int r12]) 1 (nt_lX hw (Nat.le_of_ble_eq_true rfl)) (nt_e1 hw) rfl (cSh_has hw er15) wd_344 nt_nm13 wd_343 wd_1025 wd_2 hd_X5_has ⟨Nat.le_of_ble_eq_true rfl, Nat.le_of_ble_eq_true rfl⟩ ⟨Nat.le_refl 0, Nat.le_refl 0⟩ (Nat.le_of_ble_eq_true rfl) rfl dX8_judge_109 ?_
        obtain ⟨ht, hf⟩ := nt_R_if h
        refine nt_if_eq X 130 dX8_judge_112 (by decide) (fun q16 => ?_) (fun q16 => ?_)
        · have h := ht q16
          refine nt_sub [2, 3, 4] rfl ?_
          have h := nt_R_some h
          exact hE0 x2 g h
        · have h := hf q16
          refine nt_aload_n X dX8_judge_115 rfl 2 rfl ?_
          refine nt_get X 0 inX8 (nt_lX hw (Nat.le_of_ble_eq_true rfl)) (nt_e0 hw) rfl (j := 4) (by decide) wd_316 (v := .ref (nt_a w 21)) rfl dX8_judge_116 ?_
          refine nt_iload_n X dX8_judge_119 rfl 1 rfl ?_
          refine nt_iload X dX8_judge_120 0 rfl ?_
          obtain ⟨r17, g18, er17, h⟩ := nt_R_b2 h
          refine nt_cVNi X (As := [.int r11, .int r12]) 21 (nt_lP hw nt_p21 0 (by decide)) (nt_eP hw nt_p21) rfl (cPp_spend hw hR nt_p21 er17) wd_483 nt_nm38 wd_482 wd_1052 wd_13 hd_X0_spend ⟨Nat.le_of_ble_eq_true rfl, Nat.le_of_ble_eq_true rfl⟩ ⟨Nat.le_refl 0, Nat.le_refl 0⟩ (Nat.le_of_ble_eq_true rfl) rfl dX8_judge_122 ?_
          refine nt_bipush X dX8_judge_125 nt_cb_m3 ?_
          obtain ⟨ht, hf⟩ := nt_R_if h
          refine nt_icmp_ne X 134 dX8_judge_127 (by decide) (fun q19 => ?_) (fun q19 => ?_)
          · have h := hf q19
            obtain ⟨v20, ev20, h⟩ := nt_R_lt h
            refine nt_iinc X v20 [(2, .int v20), (4, .int r12), (3, .int r11), (0, .ref (nt_a w 0)), (1, .int x1)] dX8_judge_134 4 rfl (by rw [nt_ci_2]; exact ev20) (by decide) rfl ?_
            refine nt_goto X 58 dX8_judge_137 (by decide) ?_
            refine nt_sub [3, 4, 0] rfl ?_
            have h := nt_R_some h
            exact hI v20 g18 h
          · have h := ht q19
            refine nt_sub [2, 3, 4] rfl ?_
            have h := nt_R_some h
            exact hE0 x2 g18 h
def fNt_judge (nr : Nat) (ln : Nat → Nat) (x1 : Int32) (g : nt_T) : Option (Int32 × nt_T) :=
  nt_b1 (fSs_has x1 g) fun r1 => (if r1 = 0 then
    (some ((-2 : Int32), g))
  else
    (nt_b1 (fSs_isMissing x1 g) fun r3 => (if r3 = 0 then
    (nt_gd (nt_in x1 4) <| nt_gd (decide (¬ (2 : Int32) = 0)) <| (if ((g 45 (Int32.toNatClampNeg x1)) - (g 45 (Int32.toNatClampNeg x1)) / (2 : Int32) * (2 : Int32)) = 0 then
    (nt_b1 (fPp_takeAll 21 14 g) fun g8 => (nt_b1 (nt_it (fun z => bNt_judge_58 nr ln x1 z.1 z.2) nt_fu ((0 : Int32), g8)) fun z25 => match z25 with
  | .inl (v21, g22) => nt_gd (decide (¬ (2 : Int32) = 0)) <| some ((v21 / (2 : Int32)), g22)
  | .inr (g24) => some ((-1 : Int32), g24)))
  else
    (some ((-2 : Int32), g))))
  else
    (some ((-11 : Int32), g)))))
set_option maxRecDepth 100000 in
set_option maxHeartbeats 4000000 in
theorem cNt_judge {l : Launch} {w : nt_w} (hw : nt_isX w) {nr : Nat} {ln : Nat → Nat}  (hR : nt_isR w nr ln) {x1 : Int32} {g : nt_T} {r : Int32} {g2 : nt_T} (hf : fNt_judge nr ln x1 g = some (r, g2)) : nt_Mi l w yX8_judge cX8_judge 5 (some .int) 13 [.ref (nt_a w 0), .int x1] g r g2 := by
  refine nt_Mi_of (by decide) (Nat.le_of_ble_eq_true rfl) (fun p e s m args below meth c A X => ?_)
  have X : nt_X cX8_judge 5 RX8 (some .int) w A p s m args meth c := X
  have h : nt_R (fNt_judge nr ln x1 g) (fun z => z = (r, g2)) := ⟨_, hf, rfl⟩
  unfold fNt_judge at h
  show nt_G p l e (nt_rm 13) s m args below meth c w A 0 0 (nt_Qi w A below args s r g2) 5 0 [(0, .ref (nt_a w 0)), (1, .int x1)] [] g
  refine nt_aload_n X dX8_judge_0 rfl 0 rfl ?_
  refine nt_get X 0 inX8 (nt_lX hw (Nat.le_of_ble_eq_true rfl)) (nt_e0 hw) rfl (j := 7) (by decide) wd_319 (v := .ref (nt_a w 43)) rfl dX8_judge_1 ?_
  refine nt_iload_n X dX8_judge_4 rfl 1 rfl ?_
  obtain ⟨r1, er1, h⟩ := nt_R_b1 h
  refine nt_cVNi X (As := [.int x1]) 43 (nt_lX hw (Nat.le_of_ble_eq_true rfl)) (nt_e43 hw) rfl (cSs_has hw er1) wd_558 nt_nm51 wd_557 wd_1066 wd_15 hd_X4_has ⟨Nat.le_of_ble_eq_true rfl, Nat.le_of_ble_eq_true rfl⟩ ⟨Nat.le_refl 0, Nat.le_refl 0⟩ (Nat.le_of_ble_eq_true rfl) rfl dX8_judge_5 ?_
  obtain ⟨ht, hf⟩ := nt_R_if h
  refine nt_if_ne X 14 dX8_judge_8 (by decide) (fun q2 => ?_) (fun q2 => ?_)
  · have h := hf q2
    refine nt_aload_n X dX8_judge_14 rfl 0 rfl ?_
    refine nt_get X 0 inX8 (nt_lX hw (Nat.le_of_ble_eq_true rfl)) (nt_e0 hw) rfl (j := 7) (by decide) wd_319 (v := .ref (nt_a w 43)) rfl dX8_judge_15 ?_
    refine nt_iload_n X dX8_judge_18 rfl 1 rfl ?_
    obtain ⟨r3, er3, h⟩ := nt_R_b1 h
    refine nt_cVNi X (As := [.int x1]) 43 (nt_lX hw (Nat.le_of_ble_eq_true rfl)) (nt_e43 hw) rfl (cSs_isMissing hw er3) wd_560 nt_nm53 wd_559 wd_1067 wd_15 hd_X4_isMissing ⟨Nat.le_of_ble_eq_true rfl, Nat.le_of_ble_eq_true rfl⟩ ⟨Nat.le_refl 0, Nat.le_refl 0⟩ (Nat.le_of_ble_eq_true rfl) rfl dX8_judge_19 ?_
    obtain ⟨ht, hf⟩ := nt_R_if h
    refine nt_if_eq X 28 dX8_judge_22 (by decide) (fun q4 => ?_) (fun q4 => ?_)
    · have h := ht q4
      refine nt_aload_n X dX8_judge_28 rfl 0 rfl ?_
      refine nt_get X 0 inX8 (nt_lX hw (Nat.le_of_ble_eq_true rfl)) (nt_e0 hw) rfl (j := 7) (by decide) wd_319 (v := .ref (nt_a w 43)) rfl dX8_judge_29 ?_
      refine nt_getN X 43 inX4 (nt_lX hw (Nat.le_of_ble_eq_true rfl)) (nt_e43 hw) rfl (j := 1) (by decide) nt_nf24 (v := .ref (nt_a w 45)) rfl dX8_judge_32 ?_
      refine nt_iload_n X dX8_judge_35 rfl 1 rfl ?_
      obtain ⟨q5, h⟩ := nt_R_gd h
      refine nt_iald X 45 0 (nt_lX hw (Nat.le_of_ble_eq_true rfl)) (nt_e45 hw) (nt_tX hw) q5 dX8_judge_36 ?_
      refine nt_iconst X dX8_judge_37 nt_ci_2 ?_
      obtain ⟨q6, h⟩ := nt_R_gd h
      refine nt_irem X dX8_judge_38 (of_decide_eq_true q6) ?_
      obtain ⟨ht, hf⟩ := nt_R_if h
      refine nt_if_eq X 45 dX8_judge_39 (by decide) (fun q7 => ?_) (fun q7 => ?_)
      · have h := ht q7
        refine nt_aload_n X dX8_judge_45 rfl 0 rfl ?_
        refine nt_get X 0 inX8 (nt_lX hw (Nat.le_of_ble_eq_true rfl)) (nt_e0 hw) rfl (j := 4) (by decide) wd_316 (v := .ref (nt_a w 21)) rfl dX8_judge_46 ?_
        refine nt_aload_n X dX8_judge_49 rfl 0 rfl ?_
        refine nt_get X 0 inX8 (nt_lX hw (Nat.le_of_ble_eq_true rfl)) (nt_e0 hw) rfl (j := 3) (by decide) wd_315 (v := .ref (nt_a w 14)) rfl dX8_judge_50 ?_
        obtain ⟨g8, eg8, h⟩ := nt_R_b1 h
        refine nt_cVNv X (As := [.ref (nt_a w 14)]) 21 (nt_lP hw nt_p21 0 (by decide)) (nt_eP hw nt_p21) rfl (cPp_takeAll hw nt_p21 nt_p14 eg8) wd_503 nt_nm42 wd_502 wd_1056 wd_13 hd_X0_takeAll ⟨Nat.le_of_ble_eq_true rfl, Nat.le_of_ble_eq_true rfl⟩ ⟨Nat.le_refl 0, Nat.le_refl 0⟩ (Nat.le_of_ble_eq_true rfl) rfl dX8_judge_53 ?_
        refine nt_iconst X dX8_judge_56 nt_ci_0 ?_
        refine nt_istore_n X [(2, .int (0 : Int32)), (0, .ref (nt_a w 0)), (1, .int x1)] dX8_judge_57 rfl (by decide) rfl ?_
        obtain ⟨z25, hz25, h⟩ := nt_R_b1 h
        refine nt_sub [1, 2, 0] rfl ?_
        refine tbNt_judge_58 hw  hR X x1 (Qx := fun z => z = z25) (fun v21 g22 hq => ?_) (fun g24 hq => ?_) nt_fu (0 : Int32) g8 ⟨_, hz25, rfl⟩
        · subst hq
          refine nt_iload_n X dX8_judge_130 rfl 2 rfl ?_
          refine nt_iconst X dX8_judge_131 nt_ci_2 ?_
          obtain ⟨q23, h⟩ := nt_R_gd h
          refine nt_idiv X dX8_judge_132 (of_decide_eq_true q23) ?_
          have h := nt_R_some h
          exact nt_iret X dX8_judge_133 h
        · subst hq
          refine nt_iconst X dX8_judge_140 nt_ci_m1 ?_
          have h := nt_R_some h
          exact nt_iret X dX8_judge_141 h
      · have h := hf q7
        refine nt_bipush X dX8_judge_42 nt_cb_m2 ?_
        have h := nt_R_some h
        exact nt_iret X dX8_judge_44 h
    · have h := hf q4
      refine nt_bipush X dX8_judge_25 nt_cb_m11 ?_
      have h := nt_R_some h
      exact nt_iret X dX8_judge_27 h
  · have h := ht q2
    refine nt_bipush X dX8_judge_11 nt_cb_m2 ?_
    have h := nt_R_some h
    exact nt_iret X dX8_judge_13 h
def bNt_drawn_41 (nr : Nat) (ln : Nat → Nat) (x2 : Int32) (x4 : Int32) (x5 : Int32) (x3 : Int32) (x6 : Int32) (g : nt_T) : Option ((Int32 × Int32 × nt_T) ⊕ ((Int32 × nt_T))) :=
  (if (g 21 7) ≤ x6 then
    (some (.inr (x3, g)))
  else
    (nt_lt ((x3 * (1103515245 : Int32)) + (12345 : Int32)) fun v6 => nt_gd (decide (¬ (4 : Int32) = 0)) <| nt_gd (nt_in x6 9) <| nt_lt (nt_st g 22 (Int32.toNatClampNeg x6) ((nt_ushr v6 (8 : Int32)) - (nt_ushr v6 (8 : Int32)) / (4 : Int32) * (4 : Int32))) fun g9 => nt_lt (x6 + (1 : Int32)) fun v10 => some (.inl (v6, v10, g9))))
set_option maxRecDepth 100000 in
set_option maxHeartbeats 4000000 in
theorem tbNt_drawn_41 {p : Program} {l : Launch} {e : Env} {s : State} {m : MethodId} {args : Array Value} {below : List Frame} {meth : Method} {c : Code} {w : nt_w} {A : Nat → Prop} {nr : Nat} {ln : Nat → Nat} (hw : nt_isX w)  (hR : nt_isR w nr ln) {Q : State → Prop} (X : nt_X cX8_drawn 8 RX8 (some .int) w A p s m args meth c) (x2 : Int32) (x4 : Int32) (x5 : Int32)  {Qx : ((Int32 × nt_T)) → Prop} (hE0 : ∀ (y3 : Int32) (gy : nt_T), Qx (y3, gy) → nt_G p l e (nt_rm 13) s m args below meth c w A 0 0 Q 8 84 [(0, .ref (nt_a w 0)), (2, .int x2), (3, .int y3), (4, .int x4), (5, .int x5)] [] gy) : ∀ (n : Nat) (x3 : Int32) (x6 : Int32) (g : nt_T), nt_R (nt_it (fun z => bNt_drawn_41 nr ln x2 x4 x5 z.1 z.2.1 z.2.2) n (x3, x6, g)) Qx → nt_G p l e (nt_rm 13) s m args below meth c w A 0 0 Q 8 41 [(0, .ref (nt_a w 0)), (2, .int x2), (3, .int x3), (4, .int x4), (5, .int x5), (6, .int x6)] [] g := by
  intro n
  induction n with
  | zero =>
    intro x3 x6 g h
    exact nt_R_none h
  | succ n ih =>
    intro x3 x6 g h
    have h : nt_R (bNt_drawn_41 nr ln x2 x4 x5 x3 x6 g) (nt_Qz (fun z => bNt_drawn_41 nr ln x2 x4 x5 z.1 z.2.1 z.2.2) n Qx) := nt_R_it h
    have hI : ∀ (y3 : Int32) (y6 : Int32) (gy : nt_T), nt_Qz (fun z => bNt_drawn_41 nr ln x2 x4 x5 z.1 z.2.1 z.2.2) n Qx (.inl (y3, y6, gy)) → nt_G p l e (nt_rm 13) s m args below meth c w A 0 0 Q 8 41 [(0, .ref (nt_a w 0)), (2, .int x2), (3, .int y3), (4, .int x4), (5, .int x5), (6, .int y6)] [] gy := fun y3 y6 gy q => ih y3 y6 gy q
    have hE0 : ∀ (y3 : Int32) (gy : nt_T), nt_Qz (fun z => bNt_drawn_41 nr ln x2 x4 x5 z.1 z.2.1 z.2.2) n Qx (.inr (y3, gy)) → nt_G p l e (nt_rm 13) s m args below meth c w A 0 0 Q 8 84 [(0, .ref (nt_a w 0)), (2, .int x2), (3, .int y3), (4, .int x4), (5, .int x5)] [] gy := hE0
    generalize nt_Qz (fun z => bNt_drawn_41 nr ln x2 x4 x5 z.1 z.2.1 z.2.2) n Qx = Qz at h hI hE0
    unfold bNt_drawn_41 at h
    refine nt_iload X dX8_drawn_41 5 rfl ?_
    refine nt_aload_n X dX8_drawn_43 rfl 0 rfl ?_
    refine nt_get X 0 inX8 (nt_lX hw (Nat.le_of_ble_eq_true rfl)) (nt_e0 hw) rfl (j := 4) (by decide) wd_316 (v := .ref (nt_a w 21)) rfl dX8_drawn_44 ?_
    refine nt_getN X 21 inX0 (nt_lP hw nt_p21 0 (by decide)) (nt_eP hw nt_p21) rfl (j := 7) (by decide) nt_nf18 (v := .int (g 21 7)) rfl dX8_drawn_47 ?_
    obtain ⟨ht, hf⟩ := nt_R_if h
    refine nt_icmp_ge X 84 dX8_drawn_50 (by decide) (fun q5 => ?_) (fun q5 => ?_)
    · have h := ht q5
      refine nt_sub [0, 1, 2, 3, 4] rfl ?_
      have h := nt_R_some h
      exact hE0 x3 g h
    · have h := hf q5
      refine nt_iload_n X dX8_drawn_53 rfl 2 rfl ?_
      refine nt_ldc X wd_567 dX8_drawn_54 ?_
      refine nt_imul X dX8_drawn_56 ?_
      refine nt_sipush X dX8_drawn_57 nt_cs_12345 ?_
      refine nt_iadd X dX8_drawn_60 ?_
      obtain ⟨v6, ev6, h⟩ := nt_R_lt h
      refine nt_topi ev6 ?_
      refine nt_istore_n X [(3, .int v6), (0, .ref (nt_a w 0)), (2, .int x2), (4, .int x4), (5, .int x5), (6, .int x6)] dX8_drawn_61 rfl (by decide) rfl ?_
      refine nt_aload_n X dX8_drawn_62 rfl 1 rfl ?_
      refine nt_get X 0 inX8 (nt_lX hw (Nat.le_of_ble_eq_true rfl)) (nt_e0 hw) rfl (j := 4) (by decide) wd_316 (v := .ref (nt_a w 21)) rfl dX8_drawn_63 ?_
      refine nt_getN X 21 inX0 (nt_lP hw nt_p21 0 (by decide)) (nt_eP hw nt_p21) rfl (j := 2) (by decide) nt_nf12 (v := .ref (nt_a w 22)) rfl dX8_drawn_66 ?_
      refine nt_iload X dX8_drawn_69 5 rfl ?_
      refine nt_iload_n X dX8_drawn_71 rfl 0 rfl ?_
      refine nt_bipush X dX8_drawn_72 nt_cb_8 ?_
      refine nt_iushr X (v := (nt_ushr v6 (8 : Int32))) dX8_drawn_74 rfl ?_
      refine nt_iconst X dX8_drawn_75 nt_ci_4 ?_
      obtain ⟨q7, h⟩ := nt_R_gd h
      refine nt_irem X dX8_drawn_76 (of_decide_eq_true q7) ?_
      obtain ⟨q8, h⟩ := nt_R_gd h
      refine nt_iast X 22 0 (nt_lP hw nt_p21 1 (by decide)) (nt_eP1 hw nt_p21) (nt_tX hw) q8 dX8_drawn_77 ?_
      obtain ⟨g9, eg9, h⟩ := nt_R_lt h
      refine nt_geq eg9 ?_
      obtain ⟨v10, ev10, h⟩ := nt_R_lt h
      refine nt_iinc X v10 [(6, .int v10), (3, .int v6), (0, .ref (nt_a w 0)), (2, .int x2), (4, .int x4), (5, .int x5)] dX8_drawn_78 5 rfl (by rw [nt_ci_1]; exact ev10) (by decide) rfl ?_
      refine nt_goto X 41 dX8_drawn_81 (by decide) ?_
      refine nt_sub [2, 3, 1, 4, 5, 0] rfl ?_
      have h := nt_R_some h
      exact hI v6 v10 g9 h
def bNt_drawn_87 (nr : Nat) (ln : Nat → Nat) (x2 : Int32) (x3 : Int32) (x5 : Int32) (x4 : Int32) (x6 : Int32) (g : nt_T) : Option ((Int32 × Int32 × nt_T) ⊕ ((Int32 × nt_T))) :=
  (if (4 : Int32) ≤ x6 then
    (some (.inr (x4, g)))
  else
    (nt_b2 (fPp_bestOf nr ln 21 x6 g) fun r14 g15 => (if r14 = (-1 : Int32) then
    (nt_lt (x6 + (1 : Int32)) fun v17 => some (.inl (x4, v17, g15)))
  else
    (nt_b2 (fPp_spend nr ln 21 x6 r14 g15) fun r18 g19 => nt_lt (x4 + (1 : Int32)) fun v20 => nt_lt (x6 + (1 : Int32)) fun v21 => some (.inl (v20, v21, g19))))))
set_option maxRecDepth 100000 in
set_option maxHeartbeats 4000000 in
theorem tbNt_drawn_87 {p : Program} {l : Launch} {e : Env} {s : State} {m : MethodId} {args : Array Value} {below : List Frame} {meth : Method} {c : Code} {w : nt_w} {A : Nat → Prop} {nr : Nat} {ln : Nat → Nat} (hw : nt_isX w)  (hR : nt_isR w nr ln) {Q : State → Prop} (X : nt_X cX8_drawn 8 RX8 (some .int) w A p s m args meth c) (x2 : Int32) (x3 : Int32) (x5 : Int32)  {Qx : ((Int32 × nt_T)) → Prop} (hE0 : ∀ (y4 : Int32) (gy : nt_T), Qx (y4, gy) → nt_G p l e (nt_rm 13) s m args below meth c w A 0 0 Q 8 131 [(0, .ref (nt_a w 0)), (2, .int x2), (3, .int x3), (4, .int y4), (5, .int x5)] [] gy) : ∀ (n : Nat) (x4 : Int32) (x6 : Int32) (g : nt_T), nt_R (nt_it (fun z => bNt_drawn_87 nr ln x2 x3 x5 z.1 z.2.1 z.2.2) n (x4, x6, g)) Qx → nt_G p l e (nt_rm 13) s m args below meth c w A 0 0 Q 8 87 [(0, .ref (nt_a w 0)), (2, .int x2), (3, .int x3), (4, .int x4), (5, .int x5), (6, .int x6)] [] g := by
  intro n
  induction n with
  | zero =>
    intro x4 x6 g h
    exact nt_R_none h
  | succ n ih =>
    intro x4 x6 g h
    have h : nt_R (bNt_drawn_87 nr ln x2 x3 x5 x4 x6 g) (nt_Qz (fun z => bNt_drawn_87 nr ln x2 x3 x5 z.1 z.2.1 z.2.2) n Qx) := nt_R_it h
    have hI : ∀ (y4 : Int32) (y6 : Int32) (gy : nt_T), nt_Qz (fun z => bNt_drawn_87 nr ln x2 x3 x5 z.1 z.2.1 z.2.2) n Qx (.inl (y4, y6, gy)) → nt_G p l e (nt_rm 13) s m args below meth c w A 0 0 Q 8 87 [(0, .ref (nt_a w 0)), (2, .int x2), (3, .int x3), (4, .int y4), (5, .int x5), (6, .int y6)] [] gy := fun y4 y6 gy q => ih y4 y6 gy q
    have hE0 : ∀ (y4 : Int32) (gy : nt_T), nt_Qz (fun z => bNt_drawn_87 nr ln x2 x3 x5 z.1 z.2.1 z.2.2) n Qx (.inr (y4, gy)) → nt_G p l e (nt_rm 13) s m args below meth c w A 0 0 Q 8 131 [(0, .ref (nt_a w 0)), (2, .int x2), (3, .int x3), (4, .int y4), (5, .int x5)] [] gy := hE0
    generalize nt_Qz (fun z => bNt_drawn_87 nr ln x2 x3 x5 z.1 z.2.1 z.2.2) n Qx = Qz at h hI hE0
    unfold bNt_drawn_87 at h
    refine nt_iload X dX8_drawn_87 5 rfl ?_
    refine nt_iconst X dX8_drawn_89 nt_ci_4 ?_
    obtain ⟨ht, hf⟩ := nt_R_if h
    refine nt_icmp_ge X 131 dX8_drawn_90 (by decide) (fun q13 => ?_) (fun q13 => ?_)
    · have h := ht q13
      refine nt_sub [0, 1, 2, 3, 4] rfl ?_
      have h := nt_R_some h
      exact hE0 x4 g h
    · have h := hf q13
      refine nt_aload_n X dX8_drawn_93 rfl 0 rfl ?_
      refine nt_get X 0 inX8 (nt_lX hw (Nat.le_of_ble_eq_true rfl)) (nt_e0 hw) rfl (j := 4) (by decide) wd_316 (v := .ref (nt_a w 21)) rfl dX8_drawn_94 ?_
      refine nt_iload X dX8_drawn_97 5 rfl ?_
      obtain ⟨r14, g15, er14, h⟩ := nt_R_b2 h
      refine nt_cVNi X (As := [.int x6]) 21 (nt_lP hw nt_p21 0 (by decide)) (nt_eP hw nt_p21) rfl (cPp_bestOf hw hR nt_p21 er14) wd_477 nt_nm37 wd_476 wd_1051 wd_13 hd_X0_bestOf ⟨Nat.le_of_ble_eq_true rfl, Nat.le_of_ble_eq_true rfl⟩ ⟨Nat.le_refl 0, Nat.le_refl 0⟩ (Nat.le_of_ble_eq_true rfl) rfl dX8_drawn_99 ?_
      refine nt_istore X [(7, .int r14), (0, .ref (nt_a w 0)), (2, .int x2), (3, .int x3), (4, .int x4), (5, .int x5), (6, .int x6)] dX8_drawn_102 (by decide) rfl ?_
      refine nt_iload X dX8_drawn_104 0 rfl ?_
      refine nt_iconst X dX8_drawn_106 nt_ci_m1 ?_
      obtain ⟨ht, hf⟩ := nt_R_if h
      refine nt_icmp_eq X 125 dX8_drawn_107 (by decide) (fun q16 => ?_) (fun q16 => ?_)
      · have h := ht q16
        obtain ⟨v17, ev17, h⟩ := nt_R_lt h
        refine nt_iinc X v17 [(6, .int v17), (7, .int r14), (0, .ref (nt_a w 0)), (2, .int x2), (3, .int x3), (4, .int x4), (5, .int x5)] dX8_drawn_125 6 rfl (by rw [nt_ci_1]; exact ev17) (by decide) rfl ?_
        refine nt_goto X 87 dX8_drawn_128 (by decide) ?_
        refine nt_sub [2, 3, 4, 5, 6, 0] rfl ?_
        have h := nt_R_some h
        exact hI x4 v17 g15 h
      · have h := hf q16
        refine nt_aload_n X dX8_drawn_110 rfl 1 rfl ?_
        refine nt_get X 0 inX8 (nt_lX hw (Nat.le_of_ble_eq_true rfl)) (nt_e0 hw) rfl (j := 4) (by decide) wd_316 (v := .ref (nt_a w 21)) rfl dX8_drawn_111 ?_
        refine nt_iload X dX8_drawn_114 6 rfl ?_
        refine nt_iload X dX8_drawn_116 0 rfl ?_
        obtain ⟨r18, g19, er18, h⟩ := nt_R_b2 h
        refine nt_cVNi X (As := [.int x6, .int r14]) 21 (nt_lP hw nt_p21 0 (by decide)) (nt_eP hw nt_p21) rfl (cPp_spend hw hR nt_p21 er18) wd_483 nt_nm38 wd_482 wd_1052 wd_13 hd_X0_spend ⟨Nat.le_of_ble_eq_true rfl, Nat.le_of_ble_eq_true rfl⟩ ⟨Nat.le_refl 0, Nat.le_refl 0⟩ (Nat.le_of_ble_eq_true rfl) rfl dX8_drawn_118 ?_
        refine nt_pop X dX8_drawn_121 rfl ?_
        obtain ⟨v20, ev20, h⟩ := nt_R_lt h
        refine nt_iinc X v20 [(4, .int v20), (7, .int r14), (0, .ref (nt_a w 0)), (2, .int x2), (3, .int x3), (5, .int x5), (6, .int x6)] dX8_drawn_122 4 rfl (by rw [nt_ci_1]; exact ev20) (by decide) rfl ?_
        obtain ⟨v21, ev21, h⟩ := nt_R_lt h
        refine nt_iinc X v21 [(6, .int v21), (4, .int v20), (7, .int r14), (0, .ref (nt_a w 0)), (2, .int x2), (3, .int x3), (5, .int x5)] dX8_drawn_125 6 rfl (by rw [nt_ci_1]; exact ev21) (by decide) rfl ?_
        refine nt_goto X 87 dX8_drawn_128 (by decide) ?_
        refine nt_sub [3, 4, 5, 1, 6, 0] rfl ?_
        have h := nt_R_some h
        exact hI v20 v21 g19 h
def bNt_drawn_32 (nr : Nat) (ln : Nat → Nat) (x2 : Int32) (x3 : Int32) (x4 : Int32) (x5 : Int32) (g : nt_T) : Option ((Int32 × Int32 × Int32 × nt_T) ⊕ ((Int32 × nt_T))) :=
  (if x2 ≤ x5 then
    (some (.inr (x4, g)))
  else
    ((nt_b1 (nt_it (fun z => bNt_drawn_41 nr ln x2 x4 x5 z.1 z.2.1 z.2.2) nt_fu (x3, (0 : Int32), g)) fun z27 => match z27 with
  | (v11, g12) => (nt_b1 (nt_it (fun z => bNt_drawn_87 nr ln x2 v11 x5 z.1 z.2.1 z.2.2) nt_fu (x4, (0 : Int32), g12)) fun z26 => match z26 with
  | (v22, g23) => nt_b1 (fPp_sleep 21 g23) fun g24 => nt_lt (x5 + (1 : Int32)) fun v25 => some (.inl (v11, v22, v25, g24))))))
set_option maxRecDepth 100000 in
set_option maxHeartbeats 4000000 in
theorem tbNt_drawn_32 {p : Program} {l : Launch} {e : Env} {s : State} {m : MethodId} {args : Array Value} {below : List Frame} {meth : Method} {c : Code} {w : nt_w} {A : Nat → Prop} {nr : Nat} {ln : Nat → Nat} (hw : nt_isX w)  (hR : nt_isR w nr ln) {Q : State → Prop} (X : nt_X cX8_drawn 8 RX8 (some .int) w A p s m args meth c) (x2 : Int32)  {Qx : ((Int32 × nt_T)) → Prop} (hE0 : ∀ (y4 : Int32) (gy : nt_T), Qx (y4, gy) → nt_G p l e (nt_rm 13) s m args below meth c w A 0 0 Q 8 144 [(0, .ref (nt_a w 0)), (2, .int x2), (4, .int y4)] [] gy) : ∀ (n : Nat) (x3 : Int32) (x4 : Int32) (x5 : Int32) (g : nt_T), nt_R (nt_it (fun z => bNt_drawn_32 nr ln x2 z.1 z.2.1 z.2.2.1 z.2.2.2) n (x3, x4, x5, g)) Qx → nt_G p l e (nt_rm 13) s m args below meth c w A 0 0 Q 8 32 [(0, .ref (nt_a w 0)), (2, .int x2), (3, .int x3), (4, .int x4), (5, .int x5)] [] g := by
  intro n
  induction n with
  | zero =>
    intro x3 x4 x5 g h
    exact nt_R_none h
  | succ n ih =>
    intro x3 x4 x5 g h
    have h : nt_R (bNt_drawn_32 nr ln x2 x3 x4 x5 g) (nt_Qz (fun z => bNt_drawn_32 nr ln x2 z.1 z.2.1 z.2.2.1 z.2.2.2) n Qx) := nt_R_it h
    have hI : ∀ (y3 : Int32) (y4 : Int32) (y5 : Int32) (gy : nt_T), nt_Qz (fun z => bNt_drawn_32 nr ln x2 z.1 z.2.1 z.2.2.1 z.2.2.2) n Qx (.inl (y3, y4, y5, gy)) → nt_G p l e (nt_rm 13) s m args below meth c w A 0 0 Q 8 32 [(0, .ref (nt_a w 0)), (2, .int x2), (3, .int y3), (4, .int y4), (5, .int y5)] [] gy := fun y3 y4 y5 gy q => ih y3 y4 y5 gy q
    have hE0 : ∀ (y4 : Int32) (gy : nt_T), nt_Qz (fun z => bNt_drawn_32 nr ln x2 z.1 z.2.1 z.2.2.1 z.2.2.2) n Qx (.inr (y4, gy)) → nt_G p l e (nt_rm 13) s m args below meth c w A 0 0 Q 8 144 [(0, .ref (nt_a w 0)), (2, .int x2), (4, .int y4)] [] gy := hE0
    generalize nt_Qz (fun z => bNt_drawn_32 nr ln x2 z.1 z.2.1 z.2.2.1 z.2.2.2) n Qx = Qz at h hI hE0
    unfold bNt_drawn_32 at h
    refine nt_iload X dX8_drawn_32 4 rfl ?_
    refine nt_iload_n X dX8_drawn_34 rfl 1 rfl ?_
    obtain ⟨ht, hf⟩ := nt_R_if h
    refine nt_icmp_ge X 144 dX8_drawn_35 (by decide) (fun q4 => ?_) (fun q4 => ?_)
    · have h := ht q4
      refine nt_sub [0, 1, 3] rfl ?_
      have h := nt_R_some h
      exact hE0 x4 g h
    · have h := hf q4
      refine nt_iconst X dX8_drawn_38 nt_ci_0 ?_
      refine nt_istore X [(6, .int (0 : Int32)), (0, .ref (nt_a w 0)), (2, .int x2), (3, .int x3), (4, .int x4), (5, .int x5)] dX8_drawn_39 (by decide) rfl ?_
      obtain ⟨z27, hz27, h⟩ := nt_R_b1 h
      refine nt_sub [1, 2, 3, 4, 5, 0] rfl ?_
      refine tbNt_drawn_41 hw  hR X x2 x4 x5 (Qx := fun z => z = z27) (fun v11 g12 hq => ?_) nt_fu x3 (0 : Int32) g ⟨_, hz27, rfl⟩
      subst hq
      refine nt_iconst X dX8_drawn_84 nt_ci_0 ?_
      refine nt_istore X [(6, .int (0 : Int32)), (0, .ref (nt_a w 0)), (2, .int x2), (3, .int v11), (4, .int x4), (5, .int x5)] dX8_drawn_85 (by decide) rfl ?_
      obtain ⟨z26, hz26, h⟩ := nt_R_b1 h
      refine nt_sub [1, 2, 3, 4, 5, 0] rfl ?_
      refine tbNt_drawn_87 hw  hR X x2 v11 x5 (Qx := fun z => z = z26) (fun v22 g23 hq => ?_) nt_fu x4 (0 : Int32) g12 ⟨_, hz26, rfl⟩
      subst hq
      refine nt_aload_n X dX8_drawn_131 rfl 0 rfl ?_
      refine nt_get X 0 inX8 (nt_lX hw (Nat.le_of_ble_eq_true rfl)) (nt_e0 hw) rfl (j := 4) (by decide) wd_316 (v := .ref (nt_a w 21)) rfl dX8_drawn_132 ?_
      obtain ⟨g24, eg24, h⟩ := nt_R_b1 h
      refine nt_cVNv X (As := []) 21 (nt_lP hw nt_p21 0 (by decide)) (nt_eP hw nt_p21) rfl (cPp_sleep hw nt_p21 eg24) wd_490 nt_nm39 wd_489 wd_1053 wd_13 hd_X0_sleep ⟨Nat.le_of_ble_eq_true rfl, Nat.le_of_ble_eq_true rfl⟩ ⟨Nat.le_refl 0, Nat.le_refl 0⟩ (Nat.le_of_ble_eq_true rfl) rfl dX8_drawn_135 ?_
      obtain ⟨v25, ev25, h⟩ := nt_R_lt h
      refine nt_iinc X v25 [(5, .int v25), (0, .ref (nt_a w 0)), (2, .int x2), (3, .int v11), (4, .int v22)] dX8_drawn_138 4 rfl (by rw [nt_ci_1]; exact ev25) (by decide) rfl ?_
      refine nt_goto X 32 dX8_drawn_141 (by decide) ?_
      refine nt_sub [1, 2, 3, 4, 0] rfl ?_
      have h := nt_R_some h
      exact hI v11 v22 v25 g24 h
def fNt_drawn (nr : Nat) (ln : Nat → Nat) (x1 : Int32) (x2 : Int32) (g : nt_T) : Option (Int32 × nt_T) :=
  (if x2 < 0 then
    (some ((-2 : Int32), g))
  else
    ((if x2 ≤ (40 : Int32) then
    (nt_b1 (fPp_takeAll 21 14 g) fun g3 => (nt_b1 (nt_it (fun z => bNt_drawn_32 nr ln x2 z.1 z.2.1 z.2.2.1 z.2.2.2) nt_fu (x1, (0 : Int32), (0 : Int32), g3)) fun z30 => match z30 with
  | (v28, g29) => some (v28, g29)))
  else
    (some ((-2 : Int32), g)))))
set_option maxRecDepth 100000 in
set_option maxHeartbeats 4000000 in
theorem cNt_drawn {l : Launch} {w : nt_w} (hw : nt_isX w) {nr : Nat} {ln : Nat → Nat}  (hR : nt_isR w nr ln) {x1 : Int32} {x2 : Int32} {g : nt_T} {r : Int32} {g2 : nt_T} (hf : fNt_drawn nr ln x1 x2 g = some (r, g2)) : nt_Mi l w yX8_drawn cX8_drawn 8 (some .int) 13 [.ref (nt_a w 0), .int x1, .int x2] g r g2 := by
  refine nt_Mi_of (by decide) (Nat.le_of_ble_eq_true rfl) (fun p e s m args below meth c A X => ?_)
  have X : nt_X cX8_drawn 8 RX8 (some .int) w A p s m args meth c := X
  have h : nt_R (fNt_drawn nr ln x1 x2 g) (fun z => z = (r, g2)) := ⟨_, hf, rfl⟩
  unfold fNt_drawn at h
  show nt_G p l e (nt_rm 13) s m args below meth c w A 0 0 (nt_Qi w A below args s r g2) 8 0 [(0, .ref (nt_a w 0)), (1, .int x1), (2, .int x2)] [] g
  refine nt_iload_n X dX8_drawn_0 rfl 2 rfl ?_
  obtain ⟨ht, hf⟩ := nt_R_if h
  refine nt_if_lt X 10 dX8_drawn_1 (by decide) (fun q1 => ?_) (fun q1 => ?_)
  · have h := ht q1
    refine nt_bipush X dX8_drawn_10 nt_cb_m2 ?_
    have h := nt_R_some h
    exact nt_iret X dX8_drawn_12 h
  · have h := hf q1
    refine nt_iload_n X dX8_drawn_4 rfl 2 rfl ?_
    refine nt_bipush X dX8_drawn_5 nt_cb_40 ?_
    obtain ⟨ht, hf⟩ := nt_R_if h
    refine nt_icmp_le X 13 dX8_drawn_7 (by decide) (fun q2 => ?_) (fun q2 => ?_)
    · have h := ht q2
      refine nt_aload_n X dX8_drawn_13 rfl 0 rfl ?_
      refine nt_get X 0 inX8 (nt_lX hw (Nat.le_of_ble_eq_true rfl)) (nt_e0 hw) rfl (j := 4) (by decide) wd_316 (v := .ref (nt_a w 21)) rfl dX8_drawn_14 ?_
      refine nt_aload_n X dX8_drawn_17 rfl 0 rfl ?_
      refine nt_get X 0 inX8 (nt_lX hw (Nat.le_of_ble_eq_true rfl)) (nt_e0 hw) rfl (j := 3) (by decide) wd_315 (v := .ref (nt_a w 14)) rfl dX8_drawn_18 ?_
      obtain ⟨g3, eg3, h⟩ := nt_R_b1 h
      refine nt_cVNv X (As := [.ref (nt_a w 14)]) 21 (nt_lP hw nt_p21 0 (by decide)) (nt_eP hw nt_p21) rfl (cPp_takeAll hw nt_p21 nt_p14 eg3) wd_503 nt_nm42 wd_502 wd_1056 wd_13 hd_X0_takeAll ⟨Nat.le_of_ble_eq_true rfl, Nat.le_of_ble_eq_true rfl⟩ ⟨Nat.le_refl 0, Nat.le_refl 0⟩ (Nat.le_of_ble_eq_true rfl) rfl dX8_drawn_21 ?_
      refine nt_iload_n X dX8_drawn_24 rfl 1 rfl ?_
      refine nt_istore_n X [(3, .int x1), (0, .ref (nt_a w 0)), (1, .int x1), (2, .int x2)] dX8_drawn_25 rfl (by decide) rfl ?_
      refine nt_iconst X dX8_drawn_26 nt_ci_0 ?_
      refine nt_istore X [(4, .int (0 : Int32)), (3, .int x1), (0, .ref (nt_a w 0)), (1, .int x1), (2, .int x2)] dX8_drawn_27 (by decide) rfl ?_
      refine nt_iconst X dX8_drawn_29 nt_ci_0 ?_
      refine nt_istore X [(5, .int (0 : Int32)), (4, .int (0 : Int32)), (3, .int x1), (0, .ref (nt_a w 0)), (1, .int x1), (2, .int x2)] dX8_drawn_30 (by decide) rfl ?_
      obtain ⟨z30, hz30, h⟩ := nt_R_b1 h
      refine nt_sub [3, 5, 2, 1, 0] rfl ?_
      refine tbNt_drawn_32 hw  hR X x2 (Qx := fun z => z = z30) (fun v28 g29 hq => ?_) nt_fu x1 (0 : Int32) (0 : Int32) g3 ⟨_, hz30, rfl⟩
      subst hq
      refine nt_iload X dX8_drawn_144 2 rfl ?_
      have h := nt_R_some h
      exact nt_iret X dX8_drawn_146 h
    · have h := hf q2
      refine nt_bipush X dX8_drawn_10 nt_cb_m2 ?_
      have h := nt_R_some h
      exact nt_iret X dX8_drawn_12 h
def fNt_image (g : nt_T) : Option (Int32 × nt_T) :=
  nt_b1 (fPp_takeAll 28 14 g) fun g1 => nt_lt (nt_st g1 0 8 (1 : Int32)) fun g2 => some ((g2 14 8), g2)
set_option maxRecDepth 100000 in
set_option maxHeartbeats 4000000 in
theorem cNt_image {l : Launch} {w : nt_w} (hw : nt_isX w) {g : nt_T} {r : Int32} {g2 : nt_T} (hf : fNt_image g = some (r, g2)) : nt_Mi l w yX8_image cX8_image 1 (some .int) 7 [.ref (nt_a w 0)] g r g2 := by
  refine nt_Mi_of (by decide) (Nat.le_of_ble_eq_true rfl) (fun p e s m args below meth c A X => ?_)
  have X : nt_X cX8_image 1 RX8 (some .int) w A p s m args meth c := X
  have h : nt_R (fNt_image g) (fun z => z = (r, g2)) := ⟨_, hf, rfl⟩
  unfold fNt_image at h
  show nt_G p l e (nt_rm 7) s m args below meth c w A 0 0 (nt_Qi w A below args s r g2) 1 0 [(0, .ref (nt_a w 0))] [] g
  refine nt_aload_n X dX8_image_0 rfl 0 rfl ?_
  refine nt_get X 0 inX8 (nt_lX hw (Nat.le_of_ble_eq_true rfl)) (nt_e0 hw) rfl (j := 5) (by decide) wd_317 (v := .ref (nt_a w 28)) rfl dX8_image_1 ?_
  refine nt_aload_n X dX8_image_4 rfl 0 rfl ?_
  refine nt_get X 0 inX8 (nt_lX hw (Nat.le_of_ble_eq_true rfl)) (nt_e0 hw) rfl (j := 3) (by decide) wd_315 (v := .ref (nt_a w 14)) rfl dX8_image_5 ?_
  obtain ⟨g1, eg1, h⟩ := nt_R_b1 h
  refine nt_cVNv X (As := [.ref (nt_a w 14)]) 28 (nt_lP hw nt_p28 0 (by decide)) (nt_eP hw nt_p28) rfl (cPp_takeAll hw nt_p28 nt_p14 eg1) wd_503 nt_nm42 wd_502 wd_1056 wd_13 hd_X0_takeAll ⟨Nat.le_of_ble_eq_true rfl, Nat.le_of_ble_eq_true rfl⟩ ⟨Nat.le_refl 0, Nat.le_refl 0⟩ (Nat.le_of_ble_eq_true rfl) rfl dX8_image_8 ?_
  refine nt_aload_n X dX8_image_11 rfl 0 rfl ?_
  refine nt_iconst X dX8_image_12 nt_ci_1 ?_
  refine nt_put X 0 inX8 (nt_lX hw (Nat.le_of_ble_eq_true rfl)) (nt_e0 hw) rfl (j := 8) (by decide) wd_320 tyX8 tyX8_ok nmX8 rfl (ty := .boolean) rfl rfl rfl (fun _ => Nat.le_of_ble_eq_true rfl) (fun _ => rfl) dX8_image_13 ?_
  obtain ⟨g2, eg2, h⟩ := nt_R_lt h
  refine nt_geq eg2 ?_
  refine nt_aload_n X dX8_image_16 rfl 0 rfl ?_
  refine nt_get X 0 inX8 (nt_lX hw (Nat.le_of_ble_eq_true rfl)) (nt_e0 hw) rfl (j := 3) (by decide) wd_315 (v := .ref (nt_a w 14)) rfl dX8_image_17 ?_
  refine nt_getN X 14 inX0 (nt_lP hw nt_p14 0 (by decide)) (nt_eP hw nt_p14) rfl (j := 8) (by decide) nt_nf19 (v := .int (g2 14 8)) rfl dX8_image_20 ?_
  have h := nt_R_some h
  exact nt_iret X dX8_image_23 h
def fNt_back (g : nt_T) : Option (Int32 × nt_T) :=
  (if (g 0 8) = 0 then
    (some ((-3 : Int32), g))
  else
    (nt_b1 (fPp_goBackTo 14 28 g) fun g2 => some ((g2 14 8), g2)))
set_option maxRecDepth 100000 in
set_option maxHeartbeats 4000000 in
theorem cNt_back {l : Launch} {w : nt_w} (hw : nt_isX w) {g : nt_T} {r : Int32} {g2 : nt_T} (hf : fNt_back g = some (r, g2)) : nt_Mi l w yX8_back cX8_back 1 (some .int) 5 [.ref (nt_a w 0)] g r g2 := by
  refine nt_Mi_of (by decide) (Nat.le_of_ble_eq_true rfl) (fun p e s m args below meth c A X => ?_)
  have X : nt_X cX8_back 1 RX8 (some .int) w A p s m args meth c := X
  have h : nt_R (fNt_back g) (fun z => z = (r, g2)) := ⟨_, hf, rfl⟩
  unfold fNt_back at h
  show nt_G p l e (nt_rm 5) s m args below meth c w A 0 0 (nt_Qi w A below args s r g2) 1 0 [(0, .ref (nt_a w 0))] [] g
  refine nt_aload_n X dX8_back_0 rfl 0 rfl ?_
  refine nt_get X 0 inX8 (nt_lX hw (Nat.le_of_ble_eq_true rfl)) (nt_e0 hw) rfl (j := 8) (by decide) wd_320 (v := .int (g 0 8)) rfl dX8_back_1 ?_
  obtain ⟨ht, hf⟩ := nt_R_if h
  refine nt_if_ne X 10 dX8_back_4 (by decide) (fun q1 => ?_) (fun q1 => ?_)
  · have h := hf q1
    refine nt_aload_n X dX8_back_10 rfl 0 rfl ?_
    refine nt_get X 0 inX8 (nt_lX hw (Nat.le_of_ble_eq_true rfl)) (nt_e0 hw) rfl (j := 3) (by decide) wd_315 (v := .ref (nt_a w 14)) rfl dX8_back_11 ?_
    refine nt_aload_n X dX8_back_14 rfl 0 rfl ?_
    refine nt_get X 0 inX8 (nt_lX hw (Nat.le_of_ble_eq_true rfl)) (nt_e0 hw) rfl (j := 5) (by decide) wd_317 (v := .ref (nt_a w 28)) rfl dX8_back_15 ?_
    obtain ⟨g2, eg2, h⟩ := nt_R_b1 h
    refine nt_cVNv X (As := [.ref (nt_a w 28)]) 14 (nt_lP hw nt_p14 0 (by decide)) (nt_eP hw nt_p14) rfl (cPp_goBackTo hw nt_p14 nt_p28 eg2) wd_507 nt_nm55 wd_506 wd_1057 wd_13 hd_X0_goBackTo ⟨Nat.le_of_ble_eq_true rfl, Nat.le_of_ble_eq_true rfl⟩ ⟨Nat.le_refl 0, Nat.le_refl 0⟩ (Nat.le_of_ble_eq_true rfl) rfl dX8_back_18 ?_
    refine nt_aload_n X dX8_back_21 rfl 0 rfl ?_
    refine nt_get X 0 inX8 (nt_lX hw (Nat.le_of_ble_eq_true rfl)) (nt_e0 hw) rfl (j := 3) (by decide) wd_315 (v := .ref (nt_a w 14)) rfl dX8_back_22 ?_
    refine nt_getN X 14 inX0 (nt_lP hw nt_p14 0 (by decide)) (nt_eP hw nt_p14) rfl (j := 8) (by decide) nt_nf19 (v := .int (g2 14 8)) rfl dX8_back_25 ?_
    have h := nt_R_some h
    exact nt_iret X dX8_back_28 h
  · have h := ht q1
    refine nt_bipush X dX8_back_7 nt_cb_m3 ?_
    have h := nt_R_some h
    exact nt_iret X dX8_back_9 h
def fNt_count (x1 : Int32) (g : nt_T) : Option (Int32) :=
  (if x1 = 0 then
    (some (g 1 4))
  else
    (if x1 = 1 then
    (some (g 14 7))
  else
    (if x1 = 2 then
    (some (g 14 8))
  else
    (if x1 = 3 then
    (some (g 6 3))
  else
    (if x1 = 4 then
    (some (g 10 1))
  else
    (if x1 = 5 then
    (some (g 14 9))
  else
    some (-2 : Int32)))))))
set_option maxRecDepth 100000 in
set_option maxHeartbeats 4000000 in
theorem cNt_count {l : Launch} {w : nt_w} (hw : nt_isX w) {x1 : Int32} {g : nt_T} {r : Int32} (hf : fNt_count x1 g = some r) : nt_Mi l w yX8_count cX8_count 2 (some .int) 1 [.ref (nt_a w 0), .int x1] g r g := by
  refine nt_Mi_of (by decide) (Nat.le_of_ble_eq_true rfl) (fun p e s m args below meth c A X => ?_)
  have X : nt_X cX8_count 2 RX8 (some .int) w A p s m args meth c := X
  have hg : g = g := rfl
  have h : nt_R (fNt_count x1 g) (fun z => z = r) := ⟨_, hf, rfl⟩
  unfold fNt_count at h
  show nt_G p l e (nt_rm 1) s m args below meth c w A 0 0 (nt_Qi w A below args s r g) 2 0 [(0, .ref (nt_a w 0)), (1, .int x1)] [] g
  refine nt_iload_n X dX8_count_0 rfl 1 rfl ?_
  obtain ⟨ht, hf⟩ := nt_R_if h
  rcases Decidable.em (x1 = 0) with q1_0 | q1_0
  · have h := ht q1_0
    refine nt_tblIn X 40 dX8_count_1 (off := 39) (by rw [q1_0]; decide) (by rw [q1_0]; decide) (by rw [q1_0]; rfl) (by decide) ?_
    refine nt_aload_n X dX8_count_40 rfl 0 rfl ?_
    refine nt_get X 0 inX8 (nt_lX hw (Nat.le_of_ble_eq_true rfl)) (nt_e0 hw) rfl (j := 0) (by decide) wd_312 (v := .ref (nt_a w 1)) rfl dX8_count_41 ?_
    refine nt_getN X 1 inX5 (nt_lX hw (Nat.le_of_ble_eq_true rfl)) (nt_e1 hw) rfl (j := 4) (by decide) nt_nf6 (v := .int (g 1 4)) rfl dX8_count_44 ?_
    have h := nt_R_some h
    exact nt_iret X dX8_count_47 (nt_pe h hg)
  · have h := hf q1_0
    obtain ⟨ht, hf⟩ := nt_R_if h
    rcases Decidable.em (x1 = 1) with q1_1 | q1_1
    · have h := ht q1_1
      refine nt_tblIn X 48 dX8_count_1 (off := 47) (by rw [q1_1]; decide) (by rw [q1_1]; decide) (by rw [q1_1]; rfl) (by decide) ?_
      refine nt_aload_n X dX8_count_48 rfl 0 rfl ?_
      refine nt_get X 0 inX8 (nt_lX hw (Nat.le_of_ble_eq_true rfl)) (nt_e0 hw) rfl (j := 3) (by decide) wd_315 (v := .ref (nt_a w 14)) rfl dX8_count_49 ?_
      refine nt_getN X 14 inX0 (nt_lP hw nt_p14 0 (by decide)) (nt_eP hw nt_p14) rfl (j := 7) (by decide) nt_nf18 (v := .int (g 14 7)) rfl dX8_count_52 ?_
      have h := nt_R_some h
      exact nt_iret X dX8_count_55 (nt_pe h hg)
    · have h := hf q1_1
      obtain ⟨ht, hf⟩ := nt_R_if h
      rcases Decidable.em (x1 = 2) with q1_2 | q1_2
      · have h := ht q1_2
        refine nt_tblIn X 56 dX8_count_1 (off := 55) (by rw [q1_2]; decide) (by rw [q1_2]; decide) (by rw [q1_2]; rfl) (by decide) ?_
        refine nt_aload_n X dX8_count_56 rfl 0 rfl ?_
        refine nt_get X 0 inX8 (nt_lX hw (Nat.le_of_ble_eq_true rfl)) (nt_e0 hw) rfl (j := 3) (by decide) wd_315 (v := .ref (nt_a w 14)) rfl dX8_count_57 ?_
        refine nt_getN X 14 inX0 (nt_lP hw nt_p14 0 (by decide)) (nt_eP hw nt_p14) rfl (j := 8) (by decide) nt_nf19 (v := .int (g 14 8)) rfl dX8_count_60 ?_
        have h := nt_R_some h
        exact nt_iret X dX8_count_63 (nt_pe h hg)
      · have h := hf q1_2
        obtain ⟨ht, hf⟩ := nt_R_if h
        rcases Decidable.em (x1 = 3) with q1_3 | q1_3
        · have h := ht q1_3
          refine nt_tblIn X 64 dX8_count_1 (off := 63) (by rw [q1_3]; decide) (by rw [q1_3]; decide) (by rw [q1_3]; rfl) (by decide) ?_
          refine nt_aload_n X dX8_count_64 rfl 0 rfl ?_
          refine nt_get X 0 inX8 (nt_lX hw (Nat.le_of_ble_eq_true rfl)) (nt_e0 hw) rfl (j := 1) (by decide) wd_313 (v := .ref (nt_a w 6)) rfl dX8_count_65 ?_
          refine nt_getN X 6 inX7 (nt_lX hw (Nat.le_of_ble_eq_true rfl)) (nt_e6 hw) rfl (j := 3) (by decide) nt_nf9 (v := .int (g 6 3)) rfl dX8_count_68 ?_
          have h := nt_R_some h
          exact nt_iret X dX8_count_71 (nt_pe h hg)
        · have h := hf q1_3
          obtain ⟨ht, hf⟩ := nt_R_if h
          rcases Decidable.em (x1 = 4) with q1_4 | q1_4
          · have h := ht q1_4
            refine nt_tblIn X 72 dX8_count_1 (off := 71) (by rw [q1_4]; decide) (by rw [q1_4]; decide) (by rw [q1_4]; rfl) (by decide) ?_
            refine nt_aload_n X dX8_count_72 rfl 0 rfl ?_
            refine nt_get X 0 inX8 (nt_lX hw (Nat.le_of_ble_eq_true rfl)) (nt_e0 hw) rfl (j := 2) (by decide) wd_314 (v := .ref (nt_a w 10)) rfl dX8_count_73 ?_
            refine nt_getN X 10 inX1 (nt_lX hw (Nat.le_of_ble_eq_true rfl)) (nt_e10 hw) rfl (j := 1) (by decide) nt_nf10 (v := .int (g 10 1)) rfl dX8_count_76 ?_
            have h := nt_R_some h
            exact nt_iret X dX8_count_79 (nt_pe h hg)
          · have h := hf q1_4
            obtain ⟨ht, hf⟩ := nt_R_if h
            rcases Decidable.em (x1 = 5) with q1_5 | q1_5
            · have h := ht q1_5
              refine nt_tblIn X 80 dX8_count_1 (off := 79) (by rw [q1_5]; decide) (by rw [q1_5]; decide) (by rw [q1_5]; rfl) (by decide) ?_
              refine nt_aload_n X dX8_count_80 rfl 0 rfl ?_
              refine nt_get X 0 inX8 (nt_lX hw (Nat.le_of_ble_eq_true rfl)) (nt_e0 hw) rfl (j := 3) (by decide) wd_315 (v := .ref (nt_a w 14)) rfl dX8_count_81 ?_
              refine nt_getN X 14 inX0 (nt_lP hw nt_p14 0 (by decide)) (nt_eP hw nt_p14) rfl (j := 9) (by decide) nt_nf20 (v := .int (g 14 9)) rfl dX8_count_84 ?_
              have h := nt_R_some h
              exact nt_iret X dX8_count_87 (nt_pe h hg)
            · have h := hf q1_5
              refine nt_tblOut X 88 dX8_count_1 (by have w0 := lv_neT q1_0 (a := 0) (by decide); have w1 := lv_neT q1_1 (a := 1) (by decide); have w2 := lv_neT q1_2 (a := 2) (by decide); have w3 := lv_neT q1_3 (a := 3) (by decide); have w4 := lv_neT q1_4 (a := 4) (by decide); have w5 := lv_neT q1_5 (a := 5) (by decide); omega) (by decide) ?_
              refine nt_bipush X dX8_count_88 nt_cb_m2 ?_
              have h := nt_R_some h
              exact nt_iret X dX8_count_90 (nt_pe h hg)
def fNt_sheet (x1 : Int32) (x2 : Int32) (x3 : Int32) (g : nt_T) : Option (Int32 × nt_T) :=
  nt_b1 (fSs_has x1 g) fun r1 => (if r1 = 0 then
    (some ((-2 : Int32), g))
  else
    ((if x2 < (-1 : Int32) then
    (some ((-2 : Int32), g))
  else
    ((if x2 < (3 : Int32) then
    ((if x2 = (-1 : Int32) then
    (nt_b1 (fSs_lay x1 (-1 : Int32) (0 : Int32) g) fun g9 => some ((1 : Int32), g9))
  else
    ((if x3 ≤ (40 : Int32) then
    ((if 0 ≤ x3 then
    (nt_b1 (fSs_lay x1 x2 x3 g) fun g8 => some ((1 : Int32), g8))
  else
    (some ((-14 : Int32), g))))
  else
    (some ((-2 : Int32), g))))))
  else
    (some ((-2 : Int32), g)))))))
set_option maxRecDepth 100000 in
set_option maxHeartbeats 4000000 in
theorem cNt_sheet {l : Launch} {w : nt_w} (hw : nt_isX w) {x1 : Int32} {x2 : Int32} {x3 : Int32} {g : nt_T} {r : Int32} {g2 : nt_T} (hf : fNt_sheet x1 x2 x3 g = some (r, g2)) : nt_Mi l w yX8_sheet cX8_sheet 4 (some .int) 5 [.ref (nt_a w 0), .int x1, .int x2, .int x3] g r g2 := by
  refine nt_Mi_of (by decide) (Nat.le_of_ble_eq_true rfl) (fun p e s m args below meth c A X => ?_)
  have X : nt_X cX8_sheet 4 RX8 (some .int) w A p s m args meth c := X
  have h : nt_R (fNt_sheet x1 x2 x3 g) (fun z => z = (r, g2)) := ⟨_, hf, rfl⟩
  unfold fNt_sheet at h
  show nt_G p l e (nt_rm 5) s m args below meth c w A 0 0 (nt_Qi w A below args s r g2) 4 0 [(0, .ref (nt_a w 0)), (1, .int x1), (2, .int x2), (3, .int x3)] [] g
  refine nt_aload_n X dX8_sheet_0 rfl 0 rfl ?_
  refine nt_get X 0 inX8 (nt_lX hw (Nat.le_of_ble_eq_true rfl)) (nt_e0 hw) rfl (j := 7) (by decide) wd_319 (v := .ref (nt_a w 43)) rfl dX8_sheet_1 ?_
  refine nt_iload_n X dX8_sheet_4 rfl 1 rfl ?_
  obtain ⟨r1, er1, h⟩ := nt_R_b1 h
  refine nt_cVNi X (As := [.int x1]) 43 (nt_lX hw (Nat.le_of_ble_eq_true rfl)) (nt_e43 hw) rfl (cSs_has hw er1) wd_558 nt_nm51 wd_557 wd_1066 wd_15 hd_X4_has ⟨Nat.le_of_ble_eq_true rfl, Nat.le_of_ble_eq_true rfl⟩ ⟨Nat.le_refl 0, Nat.le_refl 0⟩ (Nat.le_of_ble_eq_true rfl) rfl dX8_sheet_5 ?_
  obtain ⟨ht, hf⟩ := nt_R_if h
  refine nt_if_eq X 21 dX8_sheet_8 (by decide) (fun q2 => ?_) (fun q2 => ?_)
  · have h := ht q2
    refine nt_bipush X dX8_sheet_21 nt_cb_m2 ?_
    have h := nt_R_some h
    exact nt_iret X dX8_sheet_23 h
  · have h := hf q2
    refine nt_iload_n X dX8_sheet_11 rfl 2 rfl ?_
    refine nt_iconst X dX8_sheet_12 nt_ci_m1 ?_
    obtain ⟨ht, hf⟩ := nt_R_if h
    refine nt_icmp_lt X 21 dX8_sheet_13 (by decide) (fun q3 => ?_) (fun q3 => ?_)
    · have h := ht q3
      refine nt_bipush X dX8_sheet_21 nt_cb_m2 ?_
      have h := nt_R_some h
      exact nt_iret X dX8_sheet_23 h
    · have h := hf q3
      refine nt_iload_n X dX8_sheet_16 rfl 2 rfl ?_
      refine nt_iconst X dX8_sheet_17 nt_ci_3 ?_
      obtain ⟨ht, hf⟩ := nt_R_if h
      refine nt_icmp_lt X 24 dX8_sheet_18 (by decide) (fun q4 => ?_) (fun q4 => ?_)
      · have h := ht q4
        refine nt_iload_n X dX8_sheet_24 rfl 2 rfl ?_
        refine nt_iconst X dX8_sheet_25 nt_ci_m1 ?_
        obtain ⟨ht, hf⟩ := nt_R_if h
        refine nt_icmp_ne X 41 dX8_sheet_26 (by decide) (fun q5 => ?_) (fun q5 => ?_)
        · have h := hf q5
          refine nt_iload_n X dX8_sheet_41 rfl 3 rfl ?_
          refine nt_bipush X dX8_sheet_42 nt_cb_40 ?_
          obtain ⟨ht, hf⟩ := nt_R_if h
          refine nt_icmp_le X 50 dX8_sheet_44 (by decide) (fun q6 => ?_) (fun q6 => ?_)
          · have h := ht q6
            refine nt_iload_n X dX8_sheet_50 rfl 3 rfl ?_
            obtain ⟨ht, hf⟩ := nt_R_if h
            refine nt_if_ge X 57 dX8_sheet_51 (by decide) (fun q7 => ?_) (fun q7 => ?_)
            · have h := ht q7
              refine nt_aload_n X dX8_sheet_57 rfl 0 rfl ?_
              refine nt_get X 0 inX8 (nt_lX hw (Nat.le_of_ble_eq_true rfl)) (nt_e0 hw) rfl (j := 7) (by decide) wd_319 (v := .ref (nt_a w 43)) rfl dX8_sheet_58 ?_
              refine nt_iload_n X dX8_sheet_61 rfl 1 rfl ?_
              refine nt_iload_n X dX8_sheet_62 rfl 2 rfl ?_
              refine nt_iload_n X dX8_sheet_63 rfl 3 rfl ?_
              obtain ⟨g8, eg8, h⟩ := nt_R_b1 h
              refine nt_cVNv X (As := [.int x1, .int x2, .int x3]) 43 (nt_lX hw (Nat.le_of_ble_eq_true rfl)) (nt_e43 hw) rfl (cSs_lay hw eg8) wd_585 nt_nm56 wd_584 wd_1069 wd_15 hd_X4_lay ⟨Nat.le_of_ble_eq_true rfl, Nat.le_of_ble_eq_true rfl⟩ ⟨Nat.le_refl 0, Nat.le_refl 0⟩ (Nat.le_of_ble_eq_true rfl) rfl dX8_sheet_64 ?_
              refine nt_iconst X dX8_sheet_67 nt_ci_1 ?_
              have h := nt_R_some h
              exact nt_iret X dX8_sheet_68 h
            · have h := hf q7
              refine nt_bipush X dX8_sheet_54 nt_cb_m14 ?_
              have h := nt_R_some h
              exact nt_iret X dX8_sheet_56 h
          · have h := hf q6
            refine nt_bipush X dX8_sheet_47 nt_cb_m2 ?_
            have h := nt_R_some h
            exact nt_iret X dX8_sheet_49 h
        · have h := ht q5
          refine nt_aload_n X dX8_sheet_29 rfl 0 rfl ?_
          refine nt_get X 0 inX8 (nt_lX hw (Nat.le_of_ble_eq_true rfl)) (nt_e0 hw) rfl (j := 7) (by decide) wd_319 (v := .ref (nt_a w 43)) rfl dX8_sheet_30 ?_
          refine nt_iload_n X dX8_sheet_33 rfl 1 rfl ?_
          refine nt_iconst X dX8_sheet_34 nt_ci_m1 ?_
          refine nt_iconst X dX8_sheet_35 nt_ci_0 ?_
          obtain ⟨g9, eg9, h⟩ := nt_R_b1 h
          refine nt_cVNv X (As := [.int x1, .int (-1 : Int32), .int (0 : Int32)]) 43 (nt_lX hw (Nat.le_of_ble_eq_true rfl)) (nt_e43 hw) rfl (cSs_lay hw eg9) wd_585 nt_nm56 wd_584 wd_1069 wd_15 hd_X4_lay ⟨Nat.le_of_ble_eq_true rfl, Nat.le_of_ble_eq_true rfl⟩ ⟨Nat.le_refl 0, Nat.le_refl 0⟩ (Nat.le_of_ble_eq_true rfl) rfl dX8_sheet_36 ?_
          refine nt_iconst X dX8_sheet_39 nt_ci_1 ?_
          have h := nt_R_some h
          exact nt_iret X dX8_sheet_40 h
      · have h := hf q4
        refine nt_bipush X dX8_sheet_21 nt_cb_m2 ?_
        have h := nt_R_some h
        exact nt_iret X dX8_sheet_23 h
def fNt_cell (x1 : Int32) (x2 : Int32) (x3 : Int32) (g : nt_T) : Option (Int32 × nt_T) :=
  nt_b1 (fSs_has x1 g) fun r1 => (if r1 = 0 then
    (some ((-2 : Int32), g))
  else
    (nt_b1 (fSs_isMissing x1 g) fun r3 => (if r3 = 0 then
    (nt_b1 (fSs_reaches x1 x2 g) fun r5 => (if r5 = 0 then
    (some ((-12 : Int32), g))
  else
    (nt_b1 (fSs_write x1 x2 x3 g) fun g7 => some ((1 : Int32), g7))))
  else
    (some ((-11 : Int32), g)))))
set_option maxRecDepth 100000 in
set_option maxHeartbeats 4000000 in
theorem cNt_cell {l : Launch} {w : nt_w} (hw : nt_isX w) {x1 : Int32} {x2 : Int32} {x3 : Int32} {g : nt_T} {r : Int32} {g2 : nt_T} (hf : fNt_cell x1 x2 x3 g = some (r, g2)) : nt_Mi l w yX8_cell cX8_cell 4 (some .int) 5 [.ref (nt_a w 0), .int x1, .int x2, .int x3] g r g2 := by
  refine nt_Mi_of (by decide) (Nat.le_of_ble_eq_true rfl) (fun p e s m args below meth c A X => ?_)
  have X : nt_X cX8_cell 4 RX8 (some .int) w A p s m args meth c := X
  have h : nt_R (fNt_cell x1 x2 x3 g) (fun z => z = (r, g2)) := ⟨_, hf, rfl⟩
  unfold fNt_cell at h
  show nt_G p l e (nt_rm 5) s m args below meth c w A 0 0 (nt_Qi w A below args s r g2) 4 0 [(0, .ref (nt_a w 0)), (1, .int x1), (2, .int x2), (3, .int x3)] [] g
  refine nt_aload_n X dX8_cell_0 rfl 0 rfl ?_
  refine nt_get X 0 inX8 (nt_lX hw (Nat.le_of_ble_eq_true rfl)) (nt_e0 hw) rfl (j := 7) (by decide) wd_319 (v := .ref (nt_a w 43)) rfl dX8_cell_1 ?_
  refine nt_iload_n X dX8_cell_4 rfl 1 rfl ?_
  obtain ⟨r1, er1, h⟩ := nt_R_b1 h
  refine nt_cVNi X (As := [.int x1]) 43 (nt_lX hw (Nat.le_of_ble_eq_true rfl)) (nt_e43 hw) rfl (cSs_has hw er1) wd_558 nt_nm51 wd_557 wd_1066 wd_15 hd_X4_has ⟨Nat.le_of_ble_eq_true rfl, Nat.le_of_ble_eq_true rfl⟩ ⟨Nat.le_refl 0, Nat.le_refl 0⟩ (Nat.le_of_ble_eq_true rfl) rfl dX8_cell_5 ?_
  obtain ⟨ht, hf⟩ := nt_R_if h
  refine nt_if_ne X 14 dX8_cell_8 (by decide) (fun q2 => ?_) (fun q2 => ?_)
  · have h := hf q2
    refine nt_aload_n X dX8_cell_14 rfl 0 rfl ?_
    refine nt_get X 0 inX8 (nt_lX hw (Nat.le_of_ble_eq_true rfl)) (nt_e0 hw) rfl (j := 7) (by decide) wd_319 (v := .ref (nt_a w 43)) rfl dX8_cell_15 ?_
    refine nt_iload_n X dX8_cell_18 rfl 1 rfl ?_
    obtain ⟨r3, er3, h⟩ := nt_R_b1 h
    refine nt_cVNi X (As := [.int x1]) 43 (nt_lX hw (Nat.le_of_ble_eq_true rfl)) (nt_e43 hw) rfl (cSs_isMissing hw er3) wd_560 nt_nm53 wd_559 wd_1067 wd_15 hd_X4_isMissing ⟨Nat.le_of_ble_eq_true rfl, Nat.le_of_ble_eq_true rfl⟩ ⟨Nat.le_refl 0, Nat.le_refl 0⟩ (Nat.le_of_ble_eq_true rfl) rfl dX8_cell_19 ?_
    obtain ⟨ht, hf⟩ := nt_R_if h
    refine nt_if_eq X 28 dX8_cell_22 (by decide) (fun q4 => ?_) (fun q4 => ?_)
    · have h := ht q4
      refine nt_aload_n X dX8_cell_28 rfl 0 rfl ?_
      refine nt_get X 0 inX8 (nt_lX hw (Nat.le_of_ble_eq_true rfl)) (nt_e0 hw) rfl (j := 7) (by decide) wd_319 (v := .ref (nt_a w 43)) rfl dX8_cell_29 ?_
      refine nt_iload_n X dX8_cell_32 rfl 1 rfl ?_
      refine nt_iload_n X dX8_cell_33 rfl 2 rfl ?_
      obtain ⟨r5, er5, h⟩ := nt_R_b1 h
      refine nt_cVNi X (As := [.int x1, .int x2]) 43 (nt_lX hw (Nat.le_of_ble_eq_true rfl)) (nt_e43 hw) rfl (cSs_reaches hw er5) wd_591 nt_nm57 wd_590 wd_1070 wd_15 hd_X4_reaches ⟨Nat.le_of_ble_eq_true rfl, Nat.le_of_ble_eq_true rfl⟩ ⟨Nat.le_refl 0, Nat.le_refl 0⟩ (Nat.le_of_ble_eq_true rfl) rfl dX8_cell_34 ?_
      obtain ⟨ht, hf⟩ := nt_R_if h
      refine nt_if_ne X 43 dX8_cell_37 (by decide) (fun q6 => ?_) (fun q6 => ?_)
      · have h := hf q6
        refine nt_aload_n X dX8_cell_43 rfl 0 rfl ?_
        refine nt_get X 0 inX8 (nt_lX hw (Nat.le_of_ble_eq_true rfl)) (nt_e0 hw) rfl (j := 7) (by decide) wd_319 (v := .ref (nt_a w 43)) rfl dX8_cell_44 ?_
        refine nt_iload_n X dX8_cell_47 rfl 1 rfl ?_
        refine nt_iload_n X dX8_cell_48 rfl 2 rfl ?_
        refine nt_iload_n X dX8_cell_49 rfl 3 rfl ?_
        obtain ⟨g7, eg7, h⟩ := nt_R_b1 h
        refine nt_cVNv X (As := [.int x1, .int x2, .int x3]) 43 (nt_lX hw (Nat.le_of_ble_eq_true rfl)) (nt_e43 hw) rfl (cSs_write hw eg7) wd_593 nt_nm58 wd_592 wd_1071 wd_15 hd_X4_write ⟨Nat.le_of_ble_eq_true rfl, Nat.le_of_ble_eq_true rfl⟩ ⟨Nat.le_refl 0, Nat.le_refl 0⟩ (Nat.le_of_ble_eq_true rfl) rfl dX8_cell_50 ?_
        refine nt_iconst X dX8_cell_53 nt_ci_1 ?_
        have h := nt_R_some h
        exact nt_iret X dX8_cell_54 h
      · have h := ht q6
        refine nt_bipush X dX8_cell_40 nt_cb_m12 ?_
        have h := nt_R_some h
        exact nt_iret X dX8_cell_42 h
    · have h := hf q4
      refine nt_bipush X dX8_cell_25 nt_cb_m11 ?_
      have h := nt_R_some h
      exact nt_iret X dX8_cell_27 h
  · have h := ht q2
    refine nt_bipush X dX8_cell_11 nt_cb_m2 ?_
    have h := nt_R_some h
    exact nt_iret X dX8_cell_13 h
def fNt_copy (x1 : Int32) (x2 : Int32) (x3 : Int32) (x4 : Int32) (x5 : Int32) (g : nt_T) : Option (Int32 × nt_T) :=
  nt_b1 (fSs_has x1 g) fun r1 => (if r1 = 0 then
    (some ((-2 : Int32), g))
  else
    (nt_b1 (fSs_has x3 g) fun r3 => (if r3 = 0 then
    (some ((-2 : Int32), g))
  else
    (nt_b1 (fSs_isMissing x1 g) fun r5 => (if r5 = 0 then
    (nt_b1 (fSs_isMissing x3 g) fun r7 => (if r7 = 0 then
    (nt_gd (nt_in x1 4) <| nt_gd (nt_in x3 4) <| (if (g 44 (Int32.toNatClampNeg x1)) = (g 44 (Int32.toNatClampNeg x3)) then
    (nt_b1 (fSs_hasRun x1 x2 x5 g) fun r12 => (if r12 = 0 then
    (some ((-12 : Int32), g))
  else
    (nt_b1 (fSs_hasRun x3 x4 x5 g) fun r14 => (if r14 = 0 then
    (some ((-12 : Int32), g))
  else
    (nt_b1 (fSs_carry x1 x2 x3 x4 x5 g) fun g16 => some (x5, g16))))))
  else
    (some ((-13 : Int32), g))))
  else
    (some ((-11 : Int32), g))))
  else
    (some ((-11 : Int32), g)))))))
set_option maxRecDepth 100000 in
set_option maxHeartbeats 4000000 in
theorem cNt_copy {l : Launch} {w : nt_w} (hw : nt_isX w) {x1 : Int32} {x2 : Int32} {x3 : Int32} {x4 : Int32} {x5 : Int32} {g : nt_T} {r : Int32} {g2 : nt_T} (hf : fNt_copy x1 x2 x3 x4 x5 g = some (r, g2)) : nt_Mi l w yX8_copy cX8_copy 6 (some .int) 5 [.ref (nt_a w 0), .int x1, .int x2, .int x3, .int x4, .int x5] g r g2 := by
  refine nt_Mi_of (by decide) (Nat.le_of_ble_eq_true rfl) (fun p e s m args below meth c A X => ?_)
  have X : nt_X cX8_copy 6 RX8 (some .int) w A p s m args meth c := X
  have h : nt_R (fNt_copy x1 x2 x3 x4 x5 g) (fun z => z = (r, g2)) := ⟨_, hf, rfl⟩
  unfold fNt_copy at h
  show nt_G p l e (nt_rm 5) s m args below meth c w A 0 0 (nt_Qi w A below args s r g2) 6 0 [(0, .ref (nt_a w 0)), (1, .int x1), (2, .int x2), (3, .int x3), (4, .int x4), (5, .int x5)] [] g
  refine nt_aload_n X dX8_copy_0 rfl 0 rfl ?_
  refine nt_get X 0 inX8 (nt_lX hw (Nat.le_of_ble_eq_true rfl)) (nt_e0 hw) rfl (j := 7) (by decide) wd_319 (v := .ref (nt_a w 43)) rfl dX8_copy_1 ?_
  refine nt_iload_n X dX8_copy_4 rfl 1 rfl ?_
  obtain ⟨r1, er1, h⟩ := nt_R_b1 h
  refine nt_cVNi X (As := [.int x1]) 43 (nt_lX hw (Nat.le_of_ble_eq_true rfl)) (nt_e43 hw) rfl (cSs_has hw er1) wd_558 nt_nm51 wd_557 wd_1066 wd_15 hd_X4_has ⟨Nat.le_of_ble_eq_true rfl, Nat.le_of_ble_eq_true rfl⟩ ⟨Nat.le_refl 0, Nat.le_refl 0⟩ (Nat.le_of_ble_eq_true rfl) rfl dX8_copy_5 ?_
  obtain ⟨ht, hf⟩ := nt_R_if h
  refine nt_if_eq X 22 dX8_copy_8 (by decide) (fun q2 => ?_) (fun q2 => ?_)
  · have h := ht q2
    refine nt_bipush X dX8_copy_22 nt_cb_m2 ?_
    have h := nt_R_some h
    exact nt_iret X dX8_copy_24 h
  · have h := hf q2
    refine nt_aload_n X dX8_copy_11 rfl 0 rfl ?_
    refine nt_get X 0 inX8 (nt_lX hw (Nat.le_of_ble_eq_true rfl)) (nt_e0 hw) rfl (j := 7) (by decide) wd_319 (v := .ref (nt_a w 43)) rfl dX8_copy_12 ?_
    refine nt_iload_n X dX8_copy_15 rfl 3 rfl ?_
    obtain ⟨r3, er3, h⟩ := nt_R_b1 h
    refine nt_cVNi X (As := [.int x3]) 43 (nt_lX hw (Nat.le_of_ble_eq_true rfl)) (nt_e43 hw) rfl (cSs_has hw er3) wd_558 nt_nm51 wd_557 wd_1066 wd_15 hd_X4_has ⟨Nat.le_of_ble_eq_true rfl, Nat.le_of_ble_eq_true rfl⟩ ⟨Nat.le_refl 0, Nat.le_refl 0⟩ (Nat.le_of_ble_eq_true rfl) rfl dX8_copy_16 ?_
    obtain ⟨ht, hf⟩ := nt_R_if h
    refine nt_if_ne X 25 dX8_copy_19 (by decide) (fun q4 => ?_) (fun q4 => ?_)
    · have h := hf q4
      refine nt_aload_n X dX8_copy_25 rfl 0 rfl ?_
      refine nt_get X 0 inX8 (nt_lX hw (Nat.le_of_ble_eq_true rfl)) (nt_e0 hw) rfl (j := 7) (by decide) wd_319 (v := .ref (nt_a w 43)) rfl dX8_copy_26 ?_
      refine nt_iload_n X dX8_copy_29 rfl 1 rfl ?_
      obtain ⟨r5, er5, h⟩ := nt_R_b1 h
      refine nt_cVNi X (As := [.int x1]) 43 (nt_lX hw (Nat.le_of_ble_eq_true rfl)) (nt_e43 hw) rfl (cSs_isMissing hw er5) wd_560 nt_nm53 wd_559 wd_1067 wd_15 hd_X4_isMissing ⟨Nat.le_of_ble_eq_true rfl, Nat.le_of_ble_eq_true rfl⟩ ⟨Nat.le_refl 0, Nat.le_refl 0⟩ (Nat.le_of_ble_eq_true rfl) rfl dX8_copy_30 ?_
      obtain ⟨ht, hf⟩ := nt_R_if h
      refine nt_if_ne X 47 dX8_copy_33 (by decide) (fun q6 => ?_) (fun q6 => ?_)
      · have h := hf q6
        refine nt_bipush X dX8_copy_47 nt_cb_m11 ?_
        have h := nt_R_some h
        exact nt_iret X dX8_copy_49 h
      · have h := ht q6
        refine nt_aload_n X dX8_copy_36 rfl 0 rfl ?_
        refine nt_get X 0 inX8 (nt_lX hw (Nat.le_of_ble_eq_true rfl)) (nt_e0 hw) rfl (j := 7) (by decide) wd_319 (v := .ref (nt_a w 43)) rfl dX8_copy_37 ?_
        refine nt_iload_n X dX8_copy_40 rfl 3 rfl ?_
        obtain ⟨r7, er7, h⟩ := nt_R_b1 h
        refine nt_cVNi X (As := [.int x3]) 43 (nt_lX hw (Nat.le_of_ble_eq_true rfl)) (nt_e43 hw) rfl (cSs_isMissing hw er7) wd_560 nt_nm53 wd_559 wd_1067 wd_15 hd_X4_isMissing ⟨Nat.le_of_ble_eq_true rfl, Nat.le_of_ble_eq_true rfl⟩ ⟨Nat.le_refl 0, Nat.le_refl 0⟩ (Nat.le_of_ble_eq_true rfl) rfl dX8_copy_41 ?_
        obtain ⟨ht, hf⟩ := nt_R_if h
        refine nt_if_eq X 50 dX8_copy_44 (by decide) (fun q8 => ?_) (fun q8 => ?_)
        · have h := ht q8
          refine nt_aload_n X dX8_copy_50 rfl 0 rfl ?_
          refine nt_get X 0 inX8 (nt_lX hw (Nat.le_of_ble_eq_true rfl)) (nt_e0 hw) rfl (j := 7) (by decide) wd_319 (v := .ref (nt_a w 43)) rfl dX8_copy_51 ?_
          refine nt_getN X 43 inX4 (nt_lX hw (Nat.le_of_ble_eq_true rfl)) (nt_e43 hw) rfl (j := 0) (by decide) nt_nf23 (v := .ref (nt_a w 44)) rfl dX8_copy_54 ?_
          refine nt_iload_n X dX8_copy_57 rfl 1 rfl ?_
          obtain ⟨q9, h⟩ := nt_R_gd h
          refine nt_iald X 44 0 (nt_lX hw (Nat.le_of_ble_eq_true rfl)) (nt_e44 hw) (nt_tX hw) q9 dX8_copy_58 ?_
          refine nt_aload_n X dX8_copy_59 rfl 0 rfl ?_
          refine nt_get X 0 inX8 (nt_lX hw (Nat.le_of_ble_eq_true rfl)) (nt_e0 hw) rfl (j := 7) (by decide) wd_319 (v := .ref (nt_a w 43)) rfl dX8_copy_60 ?_
          refine nt_getN X 43 inX4 (nt_lX hw (Nat.le_of_ble_eq_true rfl)) (nt_e43 hw) rfl (j := 0) (by decide) nt_nf23 (v := .ref (nt_a w 44)) rfl dX8_copy_63 ?_
          refine nt_iload_n X dX8_copy_66 rfl 3 rfl ?_
          obtain ⟨q10, h⟩ := nt_R_gd h
          refine nt_iald X 44 0 (nt_lX hw (Nat.le_of_ble_eq_true rfl)) (nt_e44 hw) (nt_tX hw) q10 dX8_copy_67 ?_
          obtain ⟨ht, hf⟩ := nt_R_if h
          refine nt_icmp_eq X 74 dX8_copy_68 (by decide) (fun q11 => ?_) (fun q11 => ?_)
          · have h := ht q11
            refine nt_aload_n X dX8_copy_74 rfl 0 rfl ?_
            refine nt_get X 0 inX8 (nt_lX hw (Nat.le_of_ble_eq_true rfl)) (nt_e0 hw) rfl (j := 7) (by decide) wd_319 (v := .ref (nt_a w 43)) rfl dX8_copy_75 ?_
            refine nt_iload_n X dX8_copy_78 rfl 1 rfl ?_
            refine nt_iload_n X dX8_copy_79 rfl 2 rfl ?_
            refine nt_iload X dX8_copy_80 5 rfl ?_
            obtain ⟨r12, er12, h⟩ := nt_R_b1 h
            refine nt_cVNi X (As := [.int x1, .int x2, .int x5]) 43 (nt_lX hw (Nat.le_of_ble_eq_true rfl)) (nt_e43 hw) rfl (cSs_hasRun hw er12) wd_599 nt_nm59 wd_598 wd_1072 wd_15 hd_X4_hasRun ⟨Nat.le_of_ble_eq_true rfl, Nat.le_of_ble_eq_true rfl⟩ ⟨Nat.le_refl 0, Nat.le_refl 0⟩ (Nat.le_of_ble_eq_true rfl) rfl dX8_copy_82 ?_
            obtain ⟨ht, hf⟩ := nt_R_if h
            refine nt_if_eq X 103 dX8_copy_85 (by decide) (fun q13 => ?_) (fun q13 => ?_)
            · have h := ht q13
              refine nt_bipush X dX8_copy_103 nt_cb_m12 ?_
              have h := nt_R_some h
              exact nt_iret X dX8_copy_105 h
            · have h := hf q13
              refine nt_aload_n X dX8_copy_88 rfl 0 rfl ?_
              refine nt_get X 0 inX8 (nt_lX hw (Nat.le_of_ble_eq_true rfl)) (nt_e0 hw) rfl (j := 7) (by decide) wd_319 (v := .ref (nt_a w 43)) rfl dX8_copy_89 ?_
              refine nt_iload_n X dX8_copy_92 rfl 3 rfl ?_
              refine nt_iload X dX8_copy_93 4 rfl ?_
              refine nt_iload X dX8_copy_95 5 rfl ?_
              obtain ⟨r14, er14, h⟩ := nt_R_b1 h
              refine nt_cVNi X (As := [.int x3, .int x4, .int x5]) 43 (nt_lX hw (Nat.le_of_ble_eq_true rfl)) (nt_e43 hw) rfl (cSs_hasRun hw er14) wd_599 nt_nm59 wd_598 wd_1072 wd_15 hd_X4_hasRun ⟨Nat.le_of_ble_eq_true rfl, Nat.le_of_ble_eq_true rfl⟩ ⟨Nat.le_refl 0, Nat.le_refl 0⟩ (Nat.le_of_ble_eq_true rfl) rfl dX8_copy_97 ?_
              obtain ⟨ht, hf⟩ := nt_R_if h
              refine nt_if_ne X 106 dX8_copy_100 (by decide) (fun q15 => ?_) (fun q15 => ?_)
              · have h := hf q15
                refine nt_aload_n X dX8_copy_106 rfl 0 rfl ?_
                refine nt_get X 0 inX8 (nt_lX hw (Nat.le_of_ble_eq_true rfl)) (nt_e0 hw) rfl (j := 7) (by decide) wd_319 (v := .ref (nt_a w 43)) rfl dX8_copy_107 ?_
                refine nt_iload_n X dX8_copy_110 rfl 1 rfl ?_
                refine nt_iload_n X dX8_copy_111 rfl 2 rfl ?_
                refine nt_iload_n X dX8_copy_112 rfl 3 rfl ?_
                refine nt_iload X dX8_copy_113 4 rfl ?_
                refine nt_iload X dX8_copy_115 5 rfl ?_
                obtain ⟨g16, eg16, h⟩ := nt_R_b1 h
                refine nt_cVNv X (As := [.int x1, .int x2, .int x3, .int x4, .int x5]) 43 (nt_lX hw (Nat.le_of_ble_eq_true rfl)) (nt_e43 hw) rfl (cSs_carry hw eg16) wd_601 nt_nm60 wd_600 wd_1073 wd_15 hd_X4_carry ⟨Nat.le_of_ble_eq_true rfl, Nat.le_of_ble_eq_true rfl⟩ ⟨Nat.le_refl 0, Nat.le_refl 0⟩ (Nat.le_of_ble_eq_true rfl) rfl dX8_copy_117 ?_
                refine nt_iload X dX8_copy_120 5 rfl ?_
                have h := nt_R_some h
                exact nt_iret X dX8_copy_122 h
              · have h := ht q15
                refine nt_bipush X dX8_copy_103 nt_cb_m12 ?_
                have h := nt_R_some h
                exact nt_iret X dX8_copy_105 h
          · have h := hf q11
            refine nt_bipush X dX8_copy_71 nt_cb_m13 ?_
            have h := nt_R_some h
            exact nt_iret X dX8_copy_73 h
        · have h := hf q8
          refine nt_bipush X dX8_copy_47 nt_cb_m11 ?_
          have h := nt_R_some h
          exact nt_iret X dX8_copy_49 h
    · have h := ht q4
      refine nt_bipush X dX8_copy_22 nt_cb_m2 ?_
      have h := nt_R_some h
      exact nt_iret X dX8_copy_24 h
def bNt_people_70 (x1 : Int32) (x3 : Int32) (x4 : Int32) (x5 : Int32) (x6 : Int32) (g : nt_T) : Option ((Int32 × Int32 × nt_T) ⊕ ((nt_T) ⊕ (Int32 × nt_T))) :=
  (if x4 ≤ x6 then
    (some (.inr (.inr (x5, g))))
  else
    (nt_lt (x3 + ((2 : Int32) * x6)) fun v12 => nt_b1 (fSs_reaches x1 v12 g) fun r13 => (if r13 = 0 then
    (some (.inr (.inl g)))
  else
    (nt_b1 (fSs_reaches x1 (v12 + (1 : Int32)) g) fun r15 => (if r15 = 0 then
    (some (.inr (.inl g)))
  else
    (nt_b1 (fSs_at x1 v12 g) fun r17 => nt_b1 (fSs_at x1 (v12 + (1 : Int32)) g) fun r18 => nt_b2 (fPp_come 14 r17 r18 g) fun r19 g20 => (if r19 < 0 then
    (nt_lt (x6 + (1 : Int32)) fun v22 => some (.inl (x5, v22, g20)))
  else
    (nt_lt (x5 + (1 : Int32)) fun v23 => nt_lt (x6 + (1 : Int32)) fun v24 => some (.inl (v23, v24, g20))))))))))
set_option maxRecDepth 100000 in
set_option maxHeartbeats 4000000 in
theorem tbNt_people_70 {p : Program} {l : Launch} {e : Env} {s : State} {m : MethodId} {args : Array Value} {below : List Frame} {meth : Method} {c : Code} {w : nt_w} {A : Nat → Prop} (hw : nt_isX w) {Q : State → Prop} (X : nt_X cX8_people 8 RX8 (some .int) w A p s m args meth c) (x1 : Int32) (x3 : Int32) (x4 : Int32)  {Qx : ((nt_T) ⊕ (Int32 × nt_T)) → Prop} (hE0 : ∀ (gy : nt_T), Qx (.inl gy) → nt_G p l e (nt_rm 5) s m args below meth c w A 0 0 Q 8 113 [(0, .ref (nt_a w 0)), (1, .int x1), (3, .int x3), (4, .int x4)] [] gy) (hE1 : ∀ (y5 : Int32) (gy : nt_T), Qx (.inr (y5, gy)) → nt_G p l e (nt_rm 5) s m args below meth c w A 0 0 Q 8 157 [(0, .ref (nt_a w 0)), (1, .int x1), (3, .int x3), (4, .int x4), (5, .int y5)] [] gy) : ∀ (n : Nat) (x5 : Int32) (x6 : Int32) (g : nt_T), nt_R (nt_it (fun z => bNt_people_70 x1 x3 x4 z.1 z.2.1 z.2.2) n (x5, x6, g)) Qx → nt_G p l e (nt_rm 5) s m args below meth c w A 0 0 Q 8 70 [(0, .ref (nt_a w 0)), (1, .int x1), (3, .int x3), (4, .int x4), (5, .int x5), (6, .int x6)] [] g := by
  intro n
  induction n with
  | zero =>
    intro x5 x6 g h
    exact nt_R_none h
  | succ n ih =>
    intro x5 x6 g h
    have h : nt_R (bNt_people_70 x1 x3 x4 x5 x6 g) (nt_Qz (fun z => bNt_people_70 x1 x3 x4 z.1 z.2.1 z.2.2) n Qx) := nt_R_it h
    have hI : ∀ (y5 : Int32) (y6 : Int32) (gy : nt_T), nt_Qz (fun z => bNt_people_70 x1 x3 x4 z.1 z.2.1 z.2.2) n Qx (.inl (y5, y6, gy)) → nt_G p l e (nt_rm 5) s m args below meth c w A 0 0 Q 8 70 [(0, .ref (nt_a w 0)), (1, .int x1), (3, .int x3), (4, .int x4), (5, .int y5), (6, .int y6)] [] gy := fun y5 y6 gy q => ih y5 y6 gy q
    have hE0 : ∀ (gy : nt_T), nt_Qz (fun z => bNt_people_70 x1 x3 x4 z.1 z.2.1 z.2.2) n Qx (.inr (.inl gy)) → nt_G p l e (nt_rm 5) s m args below meth c w A 0 0 Q 8 113 [(0, .ref (nt_a w 0)), (1, .int x1), (3, .int x3), (4, .int x4)] [] gy := hE0
    have hE1 : ∀ (y5 : Int32) (gy : nt_T), nt_Qz (fun z => bNt_people_70 x1 x3 x4 z.1 z.2.1 z.2.2) n Qx (.inr (.inr (y5, gy))) → nt_G p l e (nt_rm 5) s m args below meth c w A 0 0 Q 8 157 [(0, .ref (nt_a w 0)), (1, .int x1), (3, .int x3), (4, .int x4), (5, .int y5)] [] gy := hE1
    generalize nt_Qz (fun z => bNt_people_70 x1 x3 x4 z.1 z.2.1 z.2.2) n Qx = Qz at h hI hE0 hE1
    unfold bNt_people_70 at h
    refine nt_iload X dX8_people_70 5 rfl ?_
    refine nt_iload X dX8_people_72 3 rfl ?_
    obtain ⟨ht, hf⟩ := nt_R_if h
    refine nt_icmp_ge X 157 dX8_people_74 (by decide) (fun q11 => ?_) (fun q11 => ?_)
    · have h := ht q11
      refine nt_sub [0, 1, 2, 3, 4] rfl ?_
      have h := nt_R_some h
      exact hE1 x5 g h
    · have h := hf q11
      refine nt_iload_n X dX8_people_77 rfl 2 rfl ?_
      refine nt_iconst X dX8_people_78 nt_ci_2 ?_
      refine nt_iload X dX8_people_79 5 rfl ?_
      refine nt_imul X dX8_people_81 ?_
      refine nt_iadd X dX8_people_82 ?_
      obtain ⟨v12, ev12, h⟩ := nt_R_lt h
      refine nt_topi ev12 ?_
      refine nt_istore X [(7, .int v12), (0, .ref (nt_a w 0)), (1, .int x1), (3, .int x3), (4, .int x4), (5, .int x5), (6, .int x6)] dX8_people_83 (by decide) rfl ?_
      refine nt_aload_n X dX8_people_85 rfl 1 rfl ?_
      refine nt_get X 0 inX8 (nt_lX hw (Nat.le_of_ble_eq_true rfl)) (nt_e0 hw) rfl (j := 7) (by decide) wd_319 (v := .ref (nt_a w 43)) rfl dX8_people_86 ?_
      refine nt_iload_n X dX8_people_89 rfl 2 rfl ?_
      refine nt_iload X dX8_people_90 0 rfl ?_
      obtain ⟨r13, er13, h⟩ := nt_R_b1 h
      refine nt_cVNi X (As := [.int x1, .int v12]) 43 (nt_lX hw (Nat.le_of_ble_eq_true rfl)) (nt_e43 hw) rfl (cSs_reaches hw er13) wd_591 nt_nm57 wd_590 wd_1070 wd_15 hd_X4_reaches ⟨Nat.le_of_ble_eq_true rfl, Nat.le_of_ble_eq_true rfl⟩ ⟨Nat.le_refl 0, Nat.le_refl 0⟩ (Nat.le_of_ble_eq_true rfl) rfl dX8_people_92 ?_
      obtain ⟨ht, hf⟩ := nt_R_if h
      refine nt_if_eq X 113 dX8_people_95 (by decide) (fun q14 => ?_) (fun q14 => ?_)
      · have h := ht q14
        refine nt_sub [1, 2, 3, 4] rfl ?_
        have h := nt_R_some h
        exact hE0 g h
      · have h := hf q14
        refine nt_aload_n X dX8_people_98 rfl 1 rfl ?_
        refine nt_get X 0 inX8 (nt_lX hw (Nat.le_of_ble_eq_true rfl)) (nt_e0 hw) rfl (j := 7) (by decide) wd_319 (v := .ref (nt_a w 43)) rfl dX8_people_99 ?_
        refine nt_iload_n X dX8_people_102 rfl 2 rfl ?_
        refine nt_iload X dX8_people_103 0 rfl ?_
        refine nt_iconst X dX8_people_105 nt_ci_1 ?_
        refine nt_iadd X dX8_people_106 ?_
        obtain ⟨r15, er15, h⟩ := nt_R_b1 h
        refine nt_cVNi X (As := [.int x1, .int (v12 + (1 : Int32))]) 43 (nt_lX hw (Nat.le_of_ble_eq_true rfl)) (nt_e43 hw) rfl (cSs_reaches hw er15) wd_591 nt_nm57 wd_590 wd_1070 wd_15 hd_X4_reaches ⟨Nat.le_of_ble_eq_true rfl, Nat.le_of_ble_eq_true rfl⟩ ⟨Nat.le_refl 0, Nat.le_refl 0⟩ (Nat.le_of_ble_eq_true rfl) rfl dX8_people_107 ?_
        obtain ⟨ht, hf⟩ := nt_R_if h
        refine nt_if_ne X 116 dX8_people_110 (by decide) (fun q16 => ?_) (fun q16 => ?_)
        · have h := hf q16
          refine nt_aload_n X dX8_people_116 rfl 1 rfl ?_
          refine nt_get X 0 inX8 (nt_lX hw (Nat.le_of_ble_eq_true rfl)) (nt_e0 hw) rfl (j := 3) (by decide) wd_315 (v := .ref (nt_a w 14)) rfl dX8_people_117 ?_
          refine nt_aload_n X dX8_people_120 rfl 1 rfl ?_
          refine nt_get X 0 inX8 (nt_lX hw (Nat.le_of_ble_eq_true rfl)) (nt_e0 hw) rfl (j := 7) (by decide) wd_319 (v := .ref (nt_a w 43)) rfl dX8_people_121 ?_
          refine nt_iload_n X dX8_people_124 rfl 2 rfl ?_
          refine nt_iload X dX8_people_125 0 rfl ?_
          obtain ⟨r17, er17, h⟩ := nt_R_b1 h
          refine nt_cVNi X (As := [.int x1, .int v12]) 43 (nt_lX hw (Nat.le_of_ble_eq_true rfl)) (nt_e43 hw) rfl (cSs_at hw er17) wd_562 nt_nm54 wd_561 wd_1068 wd_15 hd_X4_at ⟨Nat.le_of_ble_eq_true rfl, Nat.le_of_ble_eq_true rfl⟩ ⟨Nat.le_refl 0, Nat.le_refl 0⟩ (Nat.le_of_ble_eq_true rfl) rfl dX8_people_127 ?_
          refine nt_aload_n X dX8_people_130 rfl 1 rfl ?_
          refine nt_get X 0 inX8 (nt_lX hw (Nat.le_of_ble_eq_true rfl)) (nt_e0 hw) rfl (j := 7) (by decide) wd_319 (v := .ref (nt_a w 43)) rfl dX8_people_131 ?_
          refine nt_iload_n X dX8_people_134 rfl 2 rfl ?_
          refine nt_iload X dX8_people_135 0 rfl ?_
          refine nt_iconst X dX8_people_137 nt_ci_1 ?_
          refine nt_iadd X dX8_people_138 ?_
          obtain ⟨r18, er18, h⟩ := nt_R_b1 h
          refine nt_cVNi X (As := [.int x1, .int (v12 + (1 : Int32))]) 43 (nt_lX hw (Nat.le_of_ble_eq_true rfl)) (nt_e43 hw) rfl (cSs_at hw er18) wd_562 nt_nm54 wd_561 wd_1068 wd_15 hd_X4_at ⟨Nat.le_of_ble_eq_true rfl, Nat.le_of_ble_eq_true rfl⟩ ⟨Nat.le_refl 0, Nat.le_refl 0⟩ (Nat.le_of_ble_eq_true rfl) rfl dX8_people_139 ?_
          obtain ⟨r19, g20, er19, h⟩ := nt_R_b2 h
          refine nt_cVNi X (As := [.int r17, .int r18]) 14 (nt_lP hw nt_p14 0 (by decide)) (nt_eP hw nt_p14) rfl (cPp_come hw nt_p14 er19) wd_356 nt_nm16 wd_355 wd_1028 wd_13 hd_X0_come ⟨Nat.le_of_ble_eq_true rfl, Nat.le_of_ble_eq_true rfl⟩ ⟨Nat.le_refl 0, Nat.le_refl 0⟩ (Nat.le_of_ble_eq_true rfl) rfl dX8_people_142 ?_
          obtain ⟨ht, hf⟩ := nt_R_if h
          refine nt_if_lt X 151 dX8_people_145 (by decide) (fun q21 => ?_) (fun q21 => ?_)
          · have h := ht q21
            obtain ⟨v22, ev22, h⟩ := nt_R_lt h
            refine nt_iinc X v22 [(6, .int v22), (7, .int v12), (0, .ref (nt_a w 0)), (1, .int x1), (3, .int x3), (4, .int x4), (5, .int x5)] dX8_people_151 6 rfl (by rw [nt_ci_1]; exact ev22) (by decide) rfl ?_
            refine nt_goto X 70 dX8_people_154 (by decide) ?_
            refine nt_sub [2, 3, 4, 5, 6, 0] rfl ?_
            have h := nt_R_some h
            exact hI x5 v22 g20 h
          · have h := hf q21
            obtain ⟨v23, ev23, h⟩ := nt_R_lt h
            refine nt_iinc X v23 [(5, .int v23), (7, .int v12), (0, .ref (nt_a w 0)), (1, .int x1), (3, .int x3), (4, .int x4), (6, .int x6)] dX8_people_148 5 rfl (by rw [nt_ci_1]; exact ev23) (by decide) rfl ?_
            obtain ⟨v24, ev24, h⟩ := nt_R_lt h
            refine nt_iinc X v24 [(6, .int v24), (5, .int v23), (7, .int v12), (0, .ref (nt_a w 0)), (1, .int x1), (3, .int x3), (4, .int x4)] dX8_people_151 6 rfl (by rw [nt_ci_1]; exact ev24) (by decide) rfl ?_
            refine nt_goto X 70 dX8_people_154 (by decide) ?_
            refine nt_sub [3, 4, 5, 6, 1, 0] rfl ?_
            have h := nt_R_some h
            exact hI v23 v24 g20 h
        · have h := ht q16
          refine nt_sub [1, 2, 3, 4] rfl ?_
          have h := nt_R_some h
          exact hE0 g h
def fNt_people (x1 : Int32) (x2 : Int32) (x3 : Int32) (x4 : Int32) (g : nt_T) : Option (Int32 × nt_T) :=
  nt_b1 (fSs_has x1 g) fun r1 => (if r1 = 0 then
    (some ((-2 : Int32), g))
  else
    (nt_b1 (fNt_isBelow x2 (3 : Int32) g) fun r3 => (if r3 = 0 then
    (some ((-2 : Int32), g))
  else
    ((if x4 < 0 then
    (some ((-2 : Int32), g))
  else
    ((if x4 ≤ (8 : Int32) then
    (nt_b1 (fSs_isMissing x1 g) fun r7 => (if r7 = 0 then
    (nt_gd (nt_in x1 4) <| (if (g 44 (Int32.toNatClampNeg x1)) = x2 then
    ((nt_b1 (nt_it (fun z => bNt_people_70 x1 x3 x4 z.1 z.2.1 z.2.2) nt_fu ((0 : Int32), (0 : Int32), g)) fun z28 => match z28 with
  | (.inl g25) => some ((-12 : Int32), g25)
  | .inr (v26, g27) => some (v26, g27)))
  else
    (some ((-13 : Int32), g))))
  else
    (some ((-11 : Int32), g))))
  else
    (some ((-2 : Int32), g)))))))))
set_option maxRecDepth 100000 in
set_option maxHeartbeats 4000000 in
theorem cNt_people {l : Launch} {w : nt_w} (hw : nt_isX w) {x1 : Int32} {x2 : Int32} {x3 : Int32} {x4 : Int32} {g : nt_T} {r : Int32} {g2 : nt_T} (hf : fNt_people x1 x2 x3 x4 g = some (r, g2)) : nt_Mi l w yX8_people cX8_people 8 (some .int) 5 [.ref (nt_a w 0), .int x1, .int x2, .int x3, .int x4] g r g2 := by
  refine nt_Mi_of (by decide) (Nat.le_of_ble_eq_true rfl) (fun p e s m args below meth c A X => ?_)
  have X : nt_X cX8_people 8 RX8 (some .int) w A p s m args meth c := X
  have h : nt_R (fNt_people x1 x2 x3 x4 g) (fun z => z = (r, g2)) := ⟨_, hf, rfl⟩
  unfold fNt_people at h
  show nt_G p l e (nt_rm 5) s m args below meth c w A 0 0 (nt_Qi w A below args s r g2) 8 0 [(0, .ref (nt_a w 0)), (1, .int x1), (2, .int x2), (3, .int x3), (4, .int x4)] [] g
  refine nt_aload_n X dX8_people_0 rfl 0 rfl ?_
  refine nt_get X 0 inX8 (nt_lX hw (Nat.le_of_ble_eq_true rfl)) (nt_e0 hw) rfl (j := 7) (by decide) wd_319 (v := .ref (nt_a w 43)) rfl dX8_people_1 ?_
  refine nt_iload_n X dX8_people_4 rfl 1 rfl ?_
  obtain ⟨r1, er1, h⟩ := nt_R_b1 h
  refine nt_cVNi X (As := [.int x1]) 43 (nt_lX hw (Nat.le_of_ble_eq_true rfl)) (nt_e43 hw) rfl (cSs_has hw er1) wd_558 nt_nm51 wd_557 wd_1066 wd_15 hd_X4_has ⟨Nat.le_of_ble_eq_true rfl, Nat.le_of_ble_eq_true rfl⟩ ⟨Nat.le_refl 0, Nat.le_refl 0⟩ (Nat.le_of_ble_eq_true rfl) rfl dX8_people_5 ?_
  obtain ⟨ht, hf⟩ := nt_R_if h
  refine nt_if_eq X 31 dX8_people_8 (by decide) (fun q2 => ?_) (fun q2 => ?_)
  · have h := ht q2
    refine nt_bipush X dX8_people_31 nt_cb_m2 ?_
    have h := nt_R_some h
    exact nt_iret X dX8_people_33 h
  · have h := hf q2
    refine nt_iload_n X dX8_people_11 rfl 2 rfl ?_
    refine nt_iconst X dX8_people_12 nt_ci_3 ?_
    obtain ⟨r3, er3, h⟩ := nt_R_b1 h
    refine nt_cSi X (As := [.int x2, .int (3 : Int32)]) (cNt_isBelow hw er3) wd_336 wd_334 wd_335 wd_1 hd_X8_isBelow ⟨Nat.le_of_ble_eq_true rfl, Nat.le_of_ble_eq_true rfl⟩ ⟨Nat.le_refl 0, Nat.le_refl 0⟩ (Nat.le_of_ble_eq_true rfl) rfl dX8_people_13 ?_
    obtain ⟨ht, hf⟩ := nt_R_if h
    refine nt_if_eq X 31 dX8_people_16 (by decide) (fun q4 => ?_) (fun q4 => ?_)
    · have h := ht q4
      refine nt_bipush X dX8_people_31 nt_cb_m2 ?_
      have h := nt_R_some h
      exact nt_iret X dX8_people_33 h
    · have h := hf q4
      refine nt_iload X dX8_people_19 4 rfl ?_
      obtain ⟨ht, hf⟩ := nt_R_if h
      refine nt_if_lt X 31 dX8_people_21 (by decide) (fun q5 => ?_) (fun q5 => ?_)
      · have h := ht q5
        refine nt_bipush X dX8_people_31 nt_cb_m2 ?_
        have h := nt_R_some h
        exact nt_iret X dX8_people_33 h
      · have h := hf q5
        refine nt_iload X dX8_people_24 4 rfl ?_
        refine nt_bipush X dX8_people_26 nt_cb_8 ?_
        obtain ⟨ht, hf⟩ := nt_R_if h
        refine nt_icmp_le X 34 dX8_people_28 (by decide) (fun q6 => ?_) (fun q6 => ?_)
        · have h := ht q6
          refine nt_aload_n X dX8_people_34 rfl 0 rfl ?_
          refine nt_get X 0 inX8 (nt_lX hw (Nat.le_of_ble_eq_true rfl)) (nt_e0 hw) rfl (j := 7) (by decide) wd_319 (v := .ref (nt_a w 43)) rfl dX8_people_35 ?_
          refine nt_iload_n X dX8_people_38 rfl 1 rfl ?_
          obtain ⟨r7, er7, h⟩ := nt_R_b1 h
          refine nt_cVNi X (As := [.int x1]) 43 (nt_lX hw (Nat.le_of_ble_eq_true rfl)) (nt_e43 hw) rfl (cSs_isMissing hw er7) wd_560 nt_nm53 wd_559 wd_1067 wd_15 hd_X4_isMissing ⟨Nat.le_of_ble_eq_true rfl, Nat.le_of_ble_eq_true rfl⟩ ⟨Nat.le_refl 0, Nat.le_refl 0⟩ (Nat.le_of_ble_eq_true rfl) rfl dX8_people_39 ?_
          obtain ⟨ht, hf⟩ := nt_R_if h
          refine nt_if_eq X 48 dX8_people_42 (by decide) (fun q8 => ?_) (fun q8 => ?_)
          · have h := ht q8
            refine nt_aload_n X dX8_people_48 rfl 0 rfl ?_
            refine nt_get X 0 inX8 (nt_lX hw (Nat.le_of_ble_eq_true rfl)) (nt_e0 hw) rfl (j := 7) (by decide) wd_319 (v := .ref (nt_a w 43)) rfl dX8_people_49 ?_
            refine nt_getN X 43 inX4 (nt_lX hw (Nat.le_of_ble_eq_true rfl)) (nt_e43 hw) rfl (j := 0) (by decide) nt_nf23 (v := .ref (nt_a w 44)) rfl dX8_people_52 ?_
            refine nt_iload_n X dX8_people_55 rfl 1 rfl ?_
            obtain ⟨q9, h⟩ := nt_R_gd h
            refine nt_iald X 44 0 (nt_lX hw (Nat.le_of_ble_eq_true rfl)) (nt_e44 hw) (nt_tX hw) q9 dX8_people_56 ?_
            refine nt_iload_n X dX8_people_57 rfl 2 rfl ?_
            obtain ⟨ht, hf⟩ := nt_R_if h
            refine nt_icmp_eq X 64 dX8_people_58 (by decide) (fun q10 => ?_) (fun q10 => ?_)
            · have h := ht q10
              refine nt_iconst X dX8_people_64 nt_ci_0 ?_
              refine nt_istore X [(5, .int (0 : Int32)), (0, .ref (nt_a w 0)), (1, .int x1), (2, .int x2), (3, .int x3), (4, .int x4)] dX8_people_65 (by decide) rfl ?_
              refine nt_iconst X dX8_people_67 nt_ci_0 ?_
              refine nt_istore X [(6, .int (0 : Int32)), (5, .int (0 : Int32)), (0, .ref (nt_a w 0)), (1, .int x1), (2, .int x2), (3, .int x3), (4, .int x4)] dX8_people_68 (by decide) rfl ?_
              obtain ⟨z28, hz28, h⟩ := nt_R_b1 h
              refine nt_sub [2, 3, 5, 6, 1, 0] rfl ?_
              refine tbNt_people_70 hw X x1 x3 x4 (Qx := fun z => z = z28) (fun g25 hq => ?_) (fun v26 g27 hq => ?_) nt_fu (0 : Int32) (0 : Int32) g ⟨_, hz28, rfl⟩
              · subst hq
                refine nt_bipush X dX8_people_113 nt_cb_m12 ?_
                have h := nt_R_some h
                exact nt_iret X dX8_people_115 h
              · subst hq
                refine nt_iload X dX8_people_157 4 rfl ?_
                have h := nt_R_some h
                exact nt_iret X dX8_people_159 h
            · have h := hf q10
              refine nt_bipush X dX8_people_61 nt_cb_m13 ?_
              have h := nt_R_some h
              exact nt_iret X dX8_people_63 h
          · have h := hf q8
            refine nt_bipush X dX8_people_45 nt_cb_m11 ?_
            have h := nt_R_some h
            exact nt_iret X dX8_people_47 h
        · have h := hf q6
          refine nt_bipush X dX8_people_31 nt_cb_m2 ?_
          have h := nt_R_some h
          exact nt_iret X dX8_people_33 h
def fNt_taken (x1 : Int32) (x2 : Int32) (g : nt_T) : Option (Int32) :=
  nt_b1 (fNt_isBelow x2 (6 : Int32) g) fun r1 => (if r1 = 0 then
    (some (-2 : Int32))
  else
    (nt_b1 (fSh_has x1 g) fun r3 => (if r3 = 0 then
    (some (-11 : Int32))
  else
    (nt_b1 (fSh_isUnder x1 x2 g) fun r5 => (if r5 = 0 then
    (some (-13 : Int32))
  else
    (nt_gd (nt_in x1 8) <| some (g 4 (Int32.toNatClampNeg x1))))))))
set_option maxRecDepth 100000 in
set_option maxHeartbeats 4000000 in
theorem cNt_taken {l : Launch} {w : nt_w} (hw : nt_isX w) {x1 : Int32} {x2 : Int32} {g : nt_T} {r : Int32} (hf : fNt_taken x1 x2 g = some r) : nt_Mi l w yX8_taken cX8_taken 3 (some .int) 5 [.ref (nt_a w 0), .int x1, .int x2] g r g := by
  refine nt_Mi_of (by decide) (Nat.le_of_ble_eq_true rfl) (fun p e s m args below meth c A X => ?_)
  have X : nt_X cX8_taken 3 RX8 (some .int) w A p s m args meth c := X
  have hg : g = g := rfl
  have h : nt_R (fNt_taken x1 x2 g) (fun z => z = r) := ⟨_, hf, rfl⟩
  unfold fNt_taken at h
  show nt_G p l e (nt_rm 5) s m args below meth c w A 0 0 (nt_Qi w A below args s r g) 3 0 [(0, .ref (nt_a w 0)), (1, .int x1), (2, .int x2)] [] g
  refine nt_iload_n X dX8_taken_0 rfl 2 rfl ?_
  refine nt_bipush X dX8_taken_1 nt_cb_6 ?_
  obtain ⟨r1, er1, h⟩ := nt_R_b1 h
  refine nt_cSi X (As := [.int x2, .int (6 : Int32)]) (cNt_isBelow hw er1) wd_336 wd_334 wd_335 wd_1 hd_X8_isBelow ⟨Nat.le_of_ble_eq_true rfl, Nat.le_of_ble_eq_true rfl⟩ ⟨Nat.le_refl 0, Nat.le_refl 0⟩ (Nat.le_of_ble_eq_true rfl) rfl dX8_taken_3 ?_
  obtain ⟨ht, hf⟩ := nt_R_if h
  refine nt_if_ne X 12 dX8_taken_6 (by decide) (fun q2 => ?_) (fun q2 => ?_)
  · have h := hf q2
    refine nt_aload_n X dX8_taken_12 rfl 0 rfl ?_
    refine nt_get X 0 inX8 (nt_lX hw (Nat.le_of_ble_eq_true rfl)) (nt_e0 hw) rfl (j := 0) (by decide) wd_312 (v := .ref (nt_a w 1)) rfl dX8_taken_13 ?_
    refine nt_iload_n X dX8_taken_16 rfl 1 rfl ?_
    obtain ⟨r3, er3, h⟩ := nt_R_b1 h
    refine nt_cVNi X (As := [.int x1]) 1 (nt_lX hw (Nat.le_of_ble_eq_true rfl)) (nt_e1 hw) rfl (cSh_has hw er3) wd_344 nt_nm13 wd_343 wd_1025 wd_2 hd_X5_has ⟨Nat.le_of_ble_eq_true rfl, Nat.le_of_ble_eq_true rfl⟩ ⟨Nat.le_refl 0, Nat.le_refl 0⟩ (Nat.le_of_ble_eq_true rfl) rfl dX8_taken_17 ?_
    obtain ⟨ht, hf⟩ := nt_R_if h
    refine nt_if_ne X 26 dX8_taken_20 (by decide) (fun q4 => ?_) (fun q4 => ?_)
    · have h := hf q4
      refine nt_aload_n X dX8_taken_26 rfl 0 rfl ?_
      refine nt_get X 0 inX8 (nt_lX hw (Nat.le_of_ble_eq_true rfl)) (nt_e0 hw) rfl (j := 0) (by decide) wd_312 (v := .ref (nt_a w 1)) rfl dX8_taken_27 ?_
      refine nt_iload_n X dX8_taken_30 rfl 1 rfl ?_
      refine nt_iload_n X dX8_taken_31 rfl 2 rfl ?_
      obtain ⟨r5, er5, h⟩ := nt_R_b1 h
      refine nt_cVNi X (As := [.int x1, .int x2]) 1 (nt_lX hw (Nat.le_of_ble_eq_true rfl)) (nt_e1 hw) rfl (cSh_isUnder hw er5) wd_612 nt_nm61 wd_611 wd_1074 wd_2 hd_X5_isUnder ⟨Nat.le_of_ble_eq_true rfl, Nat.le_of_ble_eq_true rfl⟩ ⟨Nat.le_refl 0, Nat.le_refl 0⟩ (Nat.le_of_ble_eq_true rfl) rfl dX8_taken_32 ?_
      obtain ⟨ht, hf⟩ := nt_R_if h
      refine nt_if_eq X 50 dX8_taken_35 (by decide) (fun q6 => ?_) (fun q6 => ?_)
      · have h := ht q6
        refine nt_bipush X dX8_taken_50 nt_cb_m13 ?_
        have h := nt_R_some h
        exact nt_iret X dX8_taken_52 (nt_pe h hg)
      · have h := hf q6
        refine nt_aload_n X dX8_taken_38 rfl 0 rfl ?_
        refine nt_get X 0 inX8 (nt_lX hw (Nat.le_of_ble_eq_true rfl)) (nt_e0 hw) rfl (j := 0) (by decide) wd_312 (v := .ref (nt_a w 1)) rfl dX8_taken_39 ?_
        refine nt_getN X 1 inX5 (nt_lX hw (Nat.le_of_ble_eq_true rfl)) (nt_e1 hw) rfl (j := 2) (by decide) nt_nf2 (v := .ref (nt_a w 4)) rfl dX8_taken_42 ?_
        refine nt_iload_n X dX8_taken_45 rfl 1 rfl ?_
        obtain ⟨q7, h⟩ := nt_R_gd h
        refine nt_iald X 4 0 (nt_lX hw (Nat.le_of_ble_eq_true rfl)) (nt_e4 hw) (nt_tX hw) q7 dX8_taken_46 ?_
        refine nt_goto X 52 dX8_taken_47 (by decide) ?_
        have h := nt_R_some h
        exact nt_iret X dX8_taken_52 (nt_pe h hg)
    · have h := ht q4
      refine nt_bipush X dX8_taken_23 nt_cb_m11 ?_
      have h := nt_R_some h
      exact nt_iret X dX8_taken_25 (nt_pe h hg)
  · have h := ht q2
    refine nt_bipush X dX8_taken_9 nt_cb_m2 ?_
    have h := nt_R_some h
    exact nt_iret X dX8_taken_11 (nt_pe h hg)
