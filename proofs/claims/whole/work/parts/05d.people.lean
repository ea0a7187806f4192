def fTx_has (x1 : Int32) (g : nt_T) : Option (Int32) :=
  nt_b1 (fNt_isBelow x1 (g 6 3) g) fun r1 => nt_gd (decide (narrow .boolean (.int r1) = .int r1)) <| some r1
set_option maxRecDepth 100000 in
set_option maxHeartbeats 4000000 in
theorem cTx_has {l : Launch} {w : nt_w} (hw : nt_isX w) {x1 : Int32} {g : nt_T} {r : Int32} (hf : fTx_has x1 g = some r) : nt_Mi l w yX7_has cX7_has 2 (some .boolean) 3 [.ref (nt_a w 6), .int x1] g r g := by
  refine nt_Mi_of (by decide) (Nat.le_of_ble_eq_true rfl) (fun p e s m args below meth c A X => ?_)
  have X : nt_X cX7_has 2 RX7 (some .boolean) w A p s m args meth c := X
  have hg : g = g := rfl
  have h : nt_R (fTx_has x1 g) (fun z => z = r) := ⟨_, hf, rfl⟩
  unfold fTx_has at h
  show nt_G p l e (nt_rm 3) s m args below meth c w A 0 0 (nt_Qi w A below args s r g) 2 0 [(0, .ref (nt_a w 6)), (1, .int x1)] [] g
  refine nt_iload_n X dX7_has_0 rfl 1 rfl ?_
  refine nt_aload_n X dX7_has_1 rfl 0 rfl ?_
  refine nt_get X 6 inX7 (nt_lX hw (Nat.le_of_ble_eq_true rfl)) (nt_e6 hw) rfl (j := 3) (by decide) wd_51 (v := .int (g 6 3)) rfl dX7_has_2 ?_
  obtain ⟨r1, er1, h⟩ := nt_R_b1 h
  refine nt_cSNi X (As := [.int x1, .int (g 6 3)]) (cNt_isBelow hw er1) wd_336 nt_nm29 wd_335 wd_1 hd_X8_isBelow ⟨Nat.le_of_ble_eq_true rfl, Nat.le_of_ble_eq_true rfl⟩ ⟨Nat.le_refl 0, Nat.le_refl 0⟩ (Nat.le_of_ble_eq_true rfl) rfl dX7_has_5 ?_
  obtain ⟨q2, h⟩ := nt_R_gd h
  have h := nt_R_some h
  exact nt_zret X (of_decide_eq_true q2) dX7_has_8 (nt_pe h hg)
def fTx_at (nr : Nat) (ln : Nat → Nat) (x1 : Int32) (g : nt_T) : Option (Nat) :=
  (if x1 < 0 then
    (none)
  else
    ((if (g 6 3) ≤ x1 then
    (none)
  else
    (nt_gd (nt_in x1 6) <| nt_gd (decide (Int32.toNatClampNeg x1 < nr)) <| some (Int32.toNatClampNeg x1)))))
set_option maxRecDepth 100000 in
set_option maxHeartbeats 4000000 in
theorem cTx_at {l : Launch} {w : nt_w} (hw : nt_isX w) {nr : Nat} {ln : Nat → Nat}  (hR : nt_isR w nr ln) {x1 : Int32} {g : nt_T} {r : Nat} (hf : fTx_at nr ln x1 g = some r) : nt_Mr l w yX7_at cX7_at 2 (some (.object "NotTwice$Rule")) 1 [.ref (nt_a w 6), .int x1] g (47 + 2 * r)  := by
  refine nt_Mr_of (by decide) (Nat.le_of_ble_eq_true rfl) (fun p e s m args below meth c A X => ?_)
  have X : nt_X cX7_at 2 RX7 (some (.object "NotTwice$Rule")) w A p s m args meth c := X
  have hg : g = g := rfl
  have h : nt_R (fTx_at nr ln x1 g) (fun z => z = r) := ⟨_, hf, rfl⟩
  unfold fTx_at at h
  show nt_G p l e (nt_rm 1) s m args below meth c w A 0 0 (nt_Qr w A below args s (47 + 2 * r) g) 2 0 [(0, .ref (nt_a w 6)), (1, .int x1)] [] g
  refine nt_iload_n X dX7_at_0 rfl 1 rfl ?_
  obtain ⟨ht, hf⟩ := nt_R_if h
  refine nt_if_lt X 21 dX7_at_1 (by decide) (fun q1 => ?_) (fun q1 => ?_)
  · have h := ht q1
    exact nt_R_none h
  · have h := hf q1
    refine nt_iload_n X dX7_at_4 rfl 1 rfl ?_
    refine nt_aload_n X dX7_at_5 rfl 0 rfl ?_
    refine nt_get X 6 inX7 (nt_lX hw (Nat.le_of_ble_eq_true rfl)) (nt_e6 hw) rfl (j := 3) (by decide) wd_51 (v := .int (g 6 3)) rfl dX7_at_6 ?_
    obtain ⟨ht, hf⟩ := nt_R_if h
    refine nt_icmp_ge X 21 dX7_at_9 (by decide) (fun q2 => ?_) (fun q2 => ?_)
    · have h := ht q2
      exact nt_R_none h
    · have h := hf q2
      refine nt_aload_n X dX7_at_12 rfl 0 rfl ?_
      refine nt_get X 6 inX7 (nt_lX hw (Nat.le_of_ble_eq_true rfl)) (nt_e6 hw) rfl (j := 0) (by decide) wd_48 (v := .ref (nt_a w 7)) rfl dX7_at_13 ?_
      refine nt_iload_n X dX7_at_16 rfl 1 rfl ?_
      obtain ⟨q3, h⟩ := nt_R_gd h
      obtain ⟨q4, h⟩ := nt_R_gd h
      refine nt_aald X hR q3 (of_decide_eq_true q4) dX7_at_17 ?_
      refine nt_goto X 22 dX7_at_18 (by decide) ?_
      have h := nt_R_some h
      rw [← h]
      exact nt_aret X dX7_at_22
def fTx_isFull (g : nt_T) : Option (Int32) :=
  (if (g 6 3) < (6 : Int32) then
    (some (0 : Int32))
  else
    (some (1 : Int32)))
set_option maxRecDepth 100000 in
set_option maxHeartbeats 4000000 in
theorem cTx_isFull {l : Launch} {w : nt_w} (hw : nt_isD w) {g : nt_T} {r : Int32} (hf : fTx_isFull g = some r) : nt_Mi l w yX7_isFull cX7_isFull 1 (some .boolean) 1 [.ref (nt_a w 6)] g r g := by
  refine nt_Mi_of (by decide) (Nat.le_of_ble_eq_true rfl) (fun p e s m args below meth c A X => ?_)
  have X : nt_X cX7_isFull 1 RX7 (some .boolean) w A p s m args meth c := X
  have hg : g = g := rfl
  have h : nt_R (fTx_isFull g) (fun z => z = r) := ⟨_, hf, rfl⟩
  unfold fTx_isFull at h
  show nt_G p l e (nt_rm 1) s m args below meth c w A 0 0 (nt_Qi w A below args s r g) 1 0 [(0, .ref (nt_a w 6))] [] g
  refine nt_aload_n X dX7_isFull_0 rfl 0 rfl ?_
  refine nt_get X 6 inX7 (nt_lD hw (Nat.le_of_ble_eq_true rfl)) (nt_d6 hw) rfl (j := 3) (by decide) wd_51 (v := .int (g 6 3)) rfl dX7_isFull_1 ?_
  refine nt_bipush X dX7_isFull_4 nt_cb_6 ?_
  obtain ⟨ht, hf⟩ := nt_R_if h
  refine nt_icmp_lt X 13 dX7_isFull_6 (by decide) (fun q1 => ?_) (fun q1 => ?_)
  · have h := ht q1
    refine nt_iconst X dX7_isFull_13 nt_ci_0 ?_
    have h := nt_R_some h
    exact nt_zret X rfl dX7_isFull_14 (nt_pe h hg)
  · have h := hf q1
    refine nt_iconst X dX7_isFull_9 nt_ci_1 ?_
    refine nt_goto X 14 dX7_isFull_10 (by decide) ?_
    have h := nt_R_some h
    exact nt_zret X rfl dX7_isFull_14 (nt_pe h hg)
def fRu_joined (x0 : Int32) (x1 : Int32) (x2 : Int32) (g : nt_T) : Option (Int32) :=
  (if x0 = 6 then
    ((if x1 = 0 then
    ((if x2 = 0 then
    (some (0 : Int32))
  else
    (some (1 : Int32))))
  else
    (some (1 : Int32))))
  else
    (if x0 = 7 then
    ((if x1 = 0 then
    (some (0 : Int32))
  else
    ((if x2 = 0 then
    (some (0 : Int32))
  else
    (some (1 : Int32))))))
  else
    (if x0 = 8 then
    (some (x1 * x2))
  else
    (if x0 = 9 then
    (some (x1 * x2))
  else
    (if x0 = 10 then
    (some (x1 * x2))
  else
    (if x0 = 11 then
    (some (x1 * x2))
  else
    (if x0 = 12 then
    (some (x1 * x2))
  else
    (if x0 = 13 then
    (some (x1 * x2))
  else
    (if x0 = 14 then
    (some (x1 * x2))
  else
    (if x0 = 15 then
    (some (x1 + x2))
  else
    (if x0 = 16 then
    (some (x1 - x2))
  else
    (if x0 = 17 then
    (some (x1 * x2))
  else
    (if x0 = 18 then
    ((if x2 ≤ x1 then
    (some (0 : Int32))
  else
    (some (1 : Int32))))
  else
    (if x0 = 19 then
    ((if x1 = x2 then
    (some (1 : Int32))
  else
    (some (0 : Int32))))
  else
    some (x1 * x2)))))))))))))))
set_option maxRecDepth 100000 in
set_option maxHeartbeats 4000000 in
theorem cRu_joined {l : Launch} {w : nt_w} (hw : nt_isX w) {x0 : Int32} {x1 : Int32} {x2 : Int32} {g : nt_T} {r : Int32} (hf : fRu_joined x0 x1 x2 g = some r) : nt_Mi l w yX2_joined cX2_joined 3 (some .int) 1 [.int x0, .int x1, .int x2] g r g := by
  refine nt_Mi_of (by decide) (Nat.le_of_ble_eq_true rfl) (fun p e s m args below meth c A X => ?_)
  have X : nt_X cX2_joined 3 RX2 (some .int) w A p s m args meth c := X
  have hg : g = g := rfl
  have h : nt_R (fRu_joined x0 x1 x2 g) (fun z => z = r) := ⟨_, hf, rfl⟩
  unfold fRu_joined at h
  show nt_G p l e (nt_rm 1) s m args below meth c w A 0 0 (nt_Qi w A below args s r g) 3 0 [(0, .int x0), (1, .int x1), (2, .int x2)] [] g
  refine nt_iload_n X dX2_joined_0 rfl 0 rfl ?_
  obtain ⟨ht, hf⟩ := nt_R_if h
  rcases Decidable.em (x0 = 6) with q1_6 | q1_6
  · have h := ht q1_6
    refine nt_tblIn X 72 dX2_joined_1 (off := 71) (by rw [q1_6]; decide) (by rw [q1_6]; decide) (by rw [q1_6]; rfl) (by decide) ?_
    refine nt_iload_n X dX2_joined_72 rfl 1 rfl ?_
    obtain ⟨ht, hf⟩ := nt_R_if h
    refine nt_if_ne X 80 dX2_joined_73 (by decide) (fun q1 => ?_) (fun q1 => ?_)
    · have h := hf q1
      refine nt_iconst X dX2_joined_80 nt_ci_1 ?_
      refine nt_goto X 85 dX2_joined_81 (by decide) ?_
      have h := nt_R_some h
      exact nt_iret X dX2_joined_85 (nt_pe h hg)
    · have h := ht q1
      refine nt_iload_n X dX2_joined_76 rfl 2 rfl ?_
      obtain ⟨ht, hf⟩ := nt_R_if h
      refine nt_if_eq X 84 dX2_joined_77 (by decide) (fun q2 => ?_) (fun q2 => ?_)
      · have h := ht q2
        refine nt_iconst X dX2_joined_84 nt_ci_0 ?_
        have h := nt_R_some h
        exact nt_iret X dX2_joined_85 (nt_pe h hg)
      · have h := hf q2
        refine nt_iconst X dX2_joined_80 nt_ci_1 ?_
        refine nt_goto X 85 dX2_joined_81 (by decide) ?_
        have h := nt_R_some h
        exact nt_iret X dX2_joined_85 (nt_pe h hg)
  · have h := hf q1_6
    obtain ⟨ht, hf⟩ := nt_R_if h
    rcases Decidable.em (x0 = 7) with q1_7 | q1_7
    · have h := ht q1_7
      refine nt_tblIn X 86 dX2_joined_1 (off := 85) (by rw [q1_7]; decide) (by rw [q1_7]; decide) (by rw [q1_7]; rfl) (by decide) ?_
      refine nt_iload_n X dX2_joined_86 rfl 1 rfl ?_
      obtain ⟨ht, hf⟩ := nt_R_if h
      refine nt_if_eq X 98 dX2_joined_87 (by decide) (fun q3 => ?_) (fun q3 => ?_)
      · have h := ht q3
        refine nt_iconst X dX2_joined_98 nt_ci_0 ?_
        have h := nt_R_some h
        exact nt_iret X dX2_joined_99 (nt_pe h hg)
      · have h := hf q3
        refine nt_iload_n X dX2_joined_90 rfl 2 rfl ?_
        obtain ⟨ht, hf⟩ := nt_R_if h
        refine nt_if_eq X 98 dX2_joined_91 (by decide) (fun q4 => ?_) (fun q4 => ?_)
        · have h := ht q4
          refine nt_iconst X dX2_joined_98 nt_ci_0 ?_
          have h := nt_R_some h
          exact nt_iret X dX2_joined_99 (nt_pe h hg)
        · have h := hf q4
          refine nt_iconst X dX2_joined_94 nt_ci_1 ?_
          refine nt_goto X 99 dX2_joined_95 (by decide) ?_
          have h := nt_R_some h
          exact nt_iret X dX2_joined_99 (nt_pe h hg)
    · have h := hf q1_7
      obtain ⟨ht, hf⟩ := nt_R_if h
      rcases Decidable.em (x0 = 8) with q1_8 | q1_8
      · have h := ht q1_8
        refine nt_tblIn X 130 dX2_joined_1 (off := 129) (by rw [q1_8]; decide) (by rw [q1_8]; decide) (by rw [q1_8]; rfl) (by decide) ?_
        refine nt_iload_n X dX2_joined_130 rfl 1 rfl ?_
        refine nt_iload_n X dX2_joined_131 rfl 2 rfl ?_
        refine nt_imul X dX2_joined_132 ?_
        have h := nt_R_some h
        exact nt_iret X dX2_joined_133 (nt_pe h hg)
      · have h := hf q1_8
        obtain ⟨ht, hf⟩ := nt_R_if h
        rcases Decidable.em (x0 = 9) with q1_9 | q1_9
        · have h := ht q1_9
          refine nt_tblIn X 130 dX2_joined_1 (off := 129) (by rw [q1_9]; decide) (by rw [q1_9]; decide) (by rw [q1_9]; rfl) (by decide) ?_
          refine nt_iload_n X dX2_joined_130 rfl 1 rfl ?_
          refine nt_iload_n X dX2_joined_131 rfl 2 rfl ?_
          refine nt_imul X dX2_joined_132 ?_
          have h := nt_R_some h
          exact nt_iret X dX2_joined_133 (nt_pe h hg)
        · have h := hf q1_9
          obtain ⟨ht, hf⟩ := nt_R_if h
          rcases Decidable.em (x0 = 10) with q1_10 | q1_10
          · have h := ht q1_10
            refine nt_tblIn X 130 dX2_joined_1 (off := 129) (by rw [q1_10]; decide) (by rw [q1_10]; decide) (by rw [q1_10]; rfl) (by decide) ?_
            refine nt_iload_n X dX2_joined_130 rfl 1 rfl ?_
            refine nt_iload_n X dX2_joined_131 rfl 2 rfl ?_
            refine nt_imul X dX2_joined_132 ?_
            have h := nt_R_some h
            exact nt_iret X dX2_joined_133 (nt_pe h hg)
          · have h := hf q1_10
            obtain ⟨ht, hf⟩ := nt_R_if h
            rcases Decidable.em (x0 = 11) with q1_11 | q1_11
            · have h := ht q1_11
              refine nt_tblIn X 130 dX2_joined_1 (off := 129) (by rw [q1_11]; decide) (by rw [q1_11]; decide) (by rw [q1_11]; rfl) (by decide) ?_
              refine nt_iload_n X dX2_joined_130 rfl 1 rfl ?_
              refine nt_iload_n X dX2_joined_131 rfl 2 rfl ?_
              refine nt_imul X dX2_joined_132 ?_
              have h := nt_R_some h
              exact nt_iret X dX2_joined_133 (nt_pe h hg)
            · have h := hf q1_11
              obtain ⟨ht, hf⟩ := nt_R_if h
              rcases Decidable.em (x0 = 12) with q1_12 | q1_12
              · have h := ht q1_12
                refine nt_tblIn X 130 dX2_joined_1 (off := 129) (by rw [q1_12]; decide) (by rw [q1_12]; decide) (by rw [q1_12]; rfl) (by decide) ?_
                refine nt_iload_n X dX2_joined_130 rfl 1 rfl ?_
                refine nt_iload_n X dX2_joined_131 rfl 2 rfl ?_
                refine nt_imul X dX2_joined_132 ?_
                have h := nt_R_some h
                exact nt_iret X dX2_joined_133 (nt_pe h hg)
              · have h := hf q1_12
                obtain ⟨ht, hf⟩ := nt_R_if h
                rcases Decidable.em (x0 = 13) with q1_13 | q1_13
                · have h := ht q1_13
                  refine nt_tblIn X 130 dX2_joined_1 (off := 129) (by rw [q1_13]; decide) (by rw [q1_13]; decide) (by rw [q1_13]; rfl) (by decide) ?_
                  refine nt_iload_n X dX2_joined_130 rfl 1 rfl ?_
                  refine nt_iload_n X dX2_joined_131 rfl 2 rfl ?_
                  refine nt_imul X dX2_joined_132 ?_
                  have h := nt_R_some h
                  exact nt_iret X dX2_joined_133 (nt_pe h hg)
                · have h := hf q1_13
                  obtain ⟨ht, hf⟩ := nt_R_if h
                  rcases Decidable.em (x0 = 14) with q1_14 | q1_14
                  · have h := ht q1_14
                    refine nt_tblIn X 130 dX2_joined_1 (off := 129) (by rw [q1_14]; decide) (by rw [q1_14]; decide) (by rw [q1_14]; rfl) (by decide) ?_
                    refine nt_iload_n X dX2_joined_130 rfl 1 rfl ?_
                    refine nt_iload_n X dX2_joined_131 rfl 2 rfl ?_
                    refine nt_imul X dX2_joined_132 ?_
                    have h := nt_R_some h
                    exact nt_iret X dX2_joined_133 (nt_pe h hg)
                  · have h := hf q1_14
                    obtain ⟨ht, hf⟩ := nt_R_if h
                    rcases Decidable.em (x0 = 15) with q1_15 | q1_15
                    · have h := ht q1_15
                      refine nt_tblIn X 122 dX2_joined_1 (off := 121) (by rw [q1_15]; decide) (by rw [q1_15]; decide) (by rw [q1_15]; rfl) (by decide) ?_
                      refine nt_iload_n X dX2_joined_122 rfl 1 rfl ?_
                      refine nt_iload_n X dX2_joined_123 rfl 2 rfl ?_
                      refine nt_iadd X dX2_joined_124 ?_
                      have h := nt_R_some h
                      exact nt_iret X dX2_joined_125 (nt_pe h hg)
                    · have h := hf q1_15
                      obtain ⟨ht, hf⟩ := nt_R_if h
                      rcases Decidable.em (x0 = 16) with q1_16 | q1_16
                      · have h := ht q1_16
                        refine nt_tblIn X 126 dX2_joined_1 (off := 125) (by rw [q1_16]; decide) (by rw [q1_16]; decide) (by rw [q1_16]; rfl) (by decide) ?_
                        refine nt_iload_n X dX2_joined_126 rfl 1 rfl ?_
                        refine nt_iload_n X dX2_joined_127 rfl 2 rfl ?_
                        refine nt_isub X dX2_joined_128 ?_
                        have h := nt_R_some h
                        exact nt_iret X dX2_joined_129 (nt_pe h hg)
                      · have h := hf q1_16
                        obtain ⟨ht, hf⟩ := nt_R_if h
                        rcases Decidable.em (x0 = 17) with q1_17 | q1_17
                        · have h := ht q1_17
                          refine nt_tblIn X 130 dX2_joined_1 (off := 129) (by rw [q1_17]; decide) (by rw [q1_17]; decide) (by rw [q1_17]; rfl) (by decide) ?_
                          refine nt_iload_n X dX2_joined_130 rfl 1 rfl ?_
                          refine nt_iload_n X dX2_joined_131 rfl 2 rfl ?_
                          refine nt_imul X dX2_joined_132 ?_
                          have h := nt_R_some h
                          exact nt_iret X dX2_joined_133 (nt_pe h hg)
                        · have h := hf q1_17
                          obtain ⟨ht, hf⟩ := nt_R_if h
                          rcases Decidable.em (x0 = 18) with q1_18 | q1_18
                          · have h := ht q1_18
                            refine nt_tblIn X 100 dX2_joined_1 (off := 99) (by rw [q1_18]; decide) (by rw [q1_18]; decide) (by rw [q1_18]; rfl) (by decide) ?_
                            refine nt_iload_n X dX2_joined_100 rfl 1 rfl ?_
                            refine nt_iload_n X dX2_joined_101 rfl 2 rfl ?_
                            obtain ⟨ht, hf⟩ := nt_R_if h
                            refine nt_icmp_ge X 109 dX2_joined_102 (by decide) (fun q5 => ?_) (fun q5 => ?_)
                            · have h := ht q5
                              refine nt_iconst X dX2_joined_109 nt_ci_0 ?_
                              have h := nt_R_some h
                              exact nt_iret X dX2_joined_110 (nt_pe h hg)
                            · have h := hf q5
                              refine nt_iconst X dX2_joined_105 nt_ci_1 ?_
                              refine nt_goto X 110 dX2_joined_106 (by decide) ?_
                              have h := nt_R_some h
                              exact nt_iret X dX2_joined_110 (nt_pe h hg)
                          · have h := hf q1_18
                            obtain ⟨ht, hf⟩ := nt_R_if h
                            rcases Decidable.em (x0 = 19) with q1_19 | q1_19
                            · have h := ht q1_19
                              refine nt_tblIn X 111 dX2_joined_1 (off := 110) (by rw [q1_19]; decide) (by rw [q1_19]; decide) (by rw [q1_19]; rfl) (by decide) ?_
                              refine nt_iload_n X dX2_joined_111 rfl 1 rfl ?_
                              refine nt_iload_n X dX2_joined_112 rfl 2 rfl ?_
                              obtain ⟨ht, hf⟩ := nt_R_if h
                              refine nt_icmp_ne X 120 dX2_joined_113 (by decide) (fun q6 => ?_) (fun q6 => ?_)
                              · have h := hf q6
                                refine nt_iconst X dX2_joined_120 nt_ci_0 ?_
                                have h := nt_R_some h
                                exact nt_iret X dX2_joined_121 (nt_pe h hg)
                              · have h := ht q6
                                refine nt_iconst X dX2_joined_116 nt_ci_1 ?_
                                refine nt_goto X 121 dX2_joined_117 (by decide) ?_
                                have h := nt_R_some h
                                exact nt_iret X dX2_joined_121 (nt_pe h hg)
                            · have h := hf q1_19
                              refine nt_tblOut X 130 dX2_joined_1 (by have w6 := lv_neT q1_6 (a := 6) (by decide); have w7 := lv_neT q1_7 (a := 7) (by decide); have w8 := lv_neT q1_8 (a := 8) (by decide); have w9 := lv_neT q1_9 (a := 9) (by decide); have w10 := lv_neT q1_10 (a := 10) (by decide); have w11 := lv_neT q1_11 (a := 11) (by decide); have w12 := lv_neT q1_12 (a := 12) (by decide); have w13 := lv_neT q1_13 (a := 13) (by decide); have w14 := lv_neT q1_14 (a := 14) (by decide); have w15 := lv_neT q1_15 (a := 15) (by decide); have w16 := lv_neT q1_16 (a := 16) (by decide); have w17 := lv_neT q1_17 (a := 17) (by decide); have w18 := lv_neT q1_18 (a := 18) (by decide); have w19 := lv_neT q1_19 (a := 19) (by decide); omega) (by decide) ?_
                              refine nt_iload_n X dX2_joined_130 rfl 1 rfl ?_
                              refine nt_iload_n X dX2_joined_131 rfl 2 rfl ?_
                              refine nt_imul X dX2_joined_132 ?_
                              have h := nt_R_some h
                              exact nt_iret X dX2_joined_133 (nt_pe h hg)
def jRu_value_122 (nr : Nat) (ln : Nat → Nat) (i : Nat) (x5 : Int32) (x6 : Int32) (x7 : Int32) (s0 : Int32) (s1 : Int32) (g : nt_T) : Option ((Int32 × Int32 × nt_T) ⊕ ((Int32 × nt_T))) :=
  nt_gd (nt_in s1 31) <| nt_lt (nt_st g 9 (Int32.toNatClampNeg s1) s0) fun g13 => nt_lt (x6 + (1 : Int32)) fun v14 => nt_lt (x7 + (1 : Int32)) fun v15 => some (.inl (v14, v15, g13))
set_option maxRecDepth 100000 in
set_option maxHeartbeats 4000000 in
theorem tjRu_value_122 {p : Program} {l : Launch} {e : Env} {s : State} {m : MethodId} {args : Array Value} {below : List Frame} {meth : Method} {c : Code} {w : nt_w} {A : Nat → Prop} {nr : Nat} {ln : Nat → Nat} {i : Nat} (hw : nt_isX w)  (hR : nt_isR w nr ln) (hi : i < nr) {Q : State → Prop} (X : nt_X cX2_value 10 RX2 (some .int) w A p s m args meth c) (x5 : Int32) (x6 : Int32) (x7 : Int32) (s0 : Int32) (s1 : Int32) (g : nt_T) {Qz : (Int32 × Int32 × nt_T) ⊕ ((Int32 × nt_T)) → Prop} (hI : ∀ (y6 : Int32) (y7 : Int32) (gy : nt_T), Qz (.inl (y6, y7, gy)) → nt_G p l e (nt_rm 3) s m args below meth c w A 0 0 Q 10 63 [(0, .ref (nt_a w (47 + 2 * i))), (2, .ref (nt_a w 8)), (3, .ref (nt_a w 9)), (5, .int x5), (6, .int y6), (7, .int y7)] [] gy) (hE0 : ∀ (y6 : Int32) (gy : nt_T), Qz (.inr (y6, gy)) → nt_G p l e (nt_rm 3) s m args below meth c w A 0 0 Q 10 225 [(0, .ref (nt_a w (47 + 2 * i))), (2, .ref (nt_a w 8)), (3, .ref (nt_a w 9)), (5, .int x5), (6, .int y6)] [] gy) (h : nt_R (jRu_value_122 nr ln i x5 x6 x7 s0 s1 g) Qz) : nt_G p l e (nt_rm 3) s m args below meth c w A 0 0 Q 10 122 [(0, .ref (nt_a w (47 + 2 * i))), (2, .ref (nt_a w 8)), (3, .ref (nt_a w 9)), (5, .int x5), (6, .int x6), (7, .int x7)] [.int s0, .int s1, .ref (nt_a w 9)] g := by
  unfold jRu_value_122 at h
  obtain ⟨q12, h⟩ := nt_R_gd h
  refine nt_iast X 9 0 (nt_lX hw (Nat.le_of_ble_eq_true rfl)) (nt_e9 hw) (nt_tX hw) q12 dX2_value_122 ?_
  obtain ⟨g13, eg13, h⟩ := nt_R_lt h
  refine nt_geq eg13 ?_
  obtain ⟨v14, ev14, h⟩ := nt_R_lt h
  refine nt_iinc X v14 [(6, .int v14), (0, .ref (nt_a w (47 + 2 * i))), (2, .ref (nt_a w 8)), (3, .ref (nt_a w 9)), (5, .int x5), (7, .int x7)] dX2_value_123 4 rfl (by rw [nt_ci_1]; exact ev14) (by decide) rfl ?_
  refine nt_goto X 219 dX2_value_126 (by decide) ?_
  obtain ⟨v15, ev15, h⟩ := nt_R_lt h
  refine nt_iinc X v15 [(7, .int v15), (6, .int v14), (0, .ref (nt_a w (47 + 2 * i))), (2, .ref (nt_a w 8)), (3, .ref (nt_a w 9)), (5, .int x5)] dX2_value_219 5 rfl (by rw [nt_ci_1]; exact ev15) (by decide) rfl ?_
  refine nt_goto X 63 dX2_value_222 (by decide) ?_
  refine nt_sub [2, 3, 4, 5, 1, 0] rfl ?_
  have h := nt_R_some h
  exact hI v14 v15 g13 h
def jRu_value_93 (nr : Nat) (ln : Nat → Nat) (i : Nat) (x5 : Int32) (x6 : Int32) (x7 : Int32) (x8 : Int32) (g : nt_T) : Option ((Int32 × Int32 × nt_T) ⊕ ((Int32 × nt_T))) :=
  (if (Int32.ofNat 31) ≤ x6 then
    (nt_lt (x7 + (1 : Int32)) fun v10 => some (.inl (x6, v10, g)))
  else
    ((if (6 : Int32) ≤ x8 then
    (jRu_value_122 nr ln i x5 x6 x7 (x8 - (32 : Int32)) x6 g)
  else
    (nt_gd (nt_in x8 6) <| jRu_value_122 nr ln i x5 x6 x7 (g 8 (Int32.toNatClampNeg x8)) x6 g))))
set_option maxRecDepth 100000 in
set_option maxHeartbeats 4000000 in
theorem tjRu_value_93 {p : Program} {l : Launch} {e : Env} {s : State} {m : MethodId} {args : Array Value} {below : List Frame} {meth : Method} {c : Code} {w : nt_w} {A : Nat → Prop} {nr : Nat} {ln : Nat → Nat} {i : Nat} (hw : nt_isX w)  (hR : nt_isR w nr ln) (hi : i < nr) {Q : State → Prop} (X : nt_X cX2_value 10 RX2 (some .int) w A p s m args meth c) (x5 : Int32) (x6 : Int32) (x7 : Int32) (x8 : Int32) (g : nt_T) {Qz : (Int32 × Int32 × nt_T) ⊕ ((Int32 × nt_T)) → Prop} (hI : ∀ (y6 : Int32) (y7 : Int32) (gy : nt_T), Qz (.inl (y6, y7, gy)) → nt_G p l e (nt_rm 3) s m args below meth c w A 0 0 Q 10 63 [(0, .ref (nt_a w (47 + 2 * i))), (2, .ref (nt_a w 8)), (3, .ref (nt_a w 9)), (5, .int x5), (6, .int y6), (7, .int y7)] [] gy) (hE0 : ∀ (y6 : Int32) (gy : nt_T), Qz (.inr (y6, gy)) → nt_G p l e (nt_rm 3) s m args below meth c w A 0 0 Q 10 225 [(0, .ref (nt_a w (47 + 2 * i))), (2, .ref (nt_a w 8)), (3, .ref (nt_a w 9)), (5, .int x5), (6, .int y6)] [] gy) (h : nt_R (jRu_value_93 nr ln i x5 x6 x7 x8 g) Qz) : nt_G p l e (nt_rm 3) s m args below meth c w A 0 0 Q 10 93 [(0, .ref (nt_a w (47 + 2 * i))), (2, .ref (nt_a w 8)), (3, .ref (nt_a w 9)), (5, .int x5), (6, .int x6), (7, .int x7), (8, .int x8)] [] g := by
  unfold jRu_value_93 at h
  refine nt_iload X dX2_value_93 4 rfl ?_
  refine nt_aload_n X dX2_value_95 rfl 2 rfl ?_
  refine nt_alen X 9 0 (nt_lX hw (Nat.le_of_ble_eq_true rfl)) (nt_e9 hw) (nt_tX hw) rfl dX2_value_96 ?_
  obtain ⟨ht, hf⟩ := nt_R_if h
  refine nt_icmp_ge X 219 dX2_value_97 (by decide) (fun q9 => ?_) (fun q9 => ?_)
  · have h := ht q9
    obtain ⟨v10, ev10, h⟩ := nt_R_lt h
    refine nt_iinc X v10 [(7, .int v10), (0, .ref (nt_a w (47 + 2 * i))), (2, .ref (nt_a w 8)), (3, .ref (nt_a w 9)), (5, .int x5), (6, .int x6), (8, .int x8)] dX2_value_219 5 rfl (by rw [nt_ci_1]; exact ev10) (by decide) rfl ?_
    refine nt_goto X 63 dX2_value_222 (by decide) ?_
    refine nt_sub [1, 2, 3, 4, 5, 0] rfl ?_
    have h := nt_R_some h
    exact hI x6 v10 g h
  · have h := hf q9
    refine nt_aload_n X dX2_value_100 rfl 2 rfl ?_
    refine nt_iload X dX2_value_101 4 rfl ?_
    refine nt_iload X dX2_value_103 6 rfl ?_
    refine nt_bipush X dX2_value_105 nt_cb_6 ?_
    obtain ⟨ht, hf⟩ := nt_R_if h
    refine nt_icmp_ge X 117 dX2_value_107 (by decide) (fun q11 => ?_) (fun q11 => ?_)
    · have h := ht q11
      refine nt_iload X dX2_value_117 6 rfl ?_
      refine nt_bipush X dX2_value_119 nt_cb_32 ?_
      refine nt_isub X dX2_value_121 ?_
      refine nt_sub [0, 1, 2, 3, 4, 5] rfl ?_
      exact tjRu_value_122 hw  hR hi X x5 x6 x7 (x8 - (32 : Int32)) x6 g hI hE0 h
    · have h := hf q11
      refine nt_aload_n X dX2_value_110 rfl 1 rfl ?_
      refine nt_iload X dX2_value_111 6 rfl ?_
      obtain ⟨q16, h⟩ := nt_R_gd h
      refine nt_iald X 8 0 (nt_lX hw (Nat.le_of_ble_eq_true rfl)) (nt_e8 hw) (nt_tX hw) q16 dX2_value_113 ?_
      refine nt_goto X 122 dX2_value_114 (by decide) ?_
      refine nt_sub [0, 1, 2, 3, 4, 5] rfl ?_
      exact tjRu_value_122 hw  hR hi X x5 x6 x7 (g 8 (Int32.toNatClampNeg x8)) x6 g hI hE0 h
def jRu_value_185 (nr : Nat) (ln : Nat → Nat) (i : Nat) (x5 : Int32) (x6 : Int32) (x7 : Int32) (s0 : Int32) (s1 : Int32) (g : nt_T) : Option ((Int32 × Int32 × nt_T) ⊕ ((Int32 × nt_T))) :=
  nt_gd (nt_in s1 31) <| nt_lt (nt_st g 9 (Int32.toNatClampNeg s1) s0) fun g26 => nt_lt (x7 + (1 : Int32)) fun v27 => some (.inl (x6, v27, g26))
set_option maxRecDepth 100000 in
set_option maxHeartbeats 4000000 in
theorem tjRu_value_185 {p : Program} {l : Launch} {e : Env} {s : State} {m : MethodId} {args : Array Value} {below : List Frame} {meth : Method} {c : Code} {w : nt_w} {A : Nat → Prop} {nr : Nat} {ln : Nat → Nat} {i : Nat} (hw : nt_isX w)  (hR : nt_isR w nr ln) (hi : i < nr) {Q : State → Prop} (X : nt_X cX2_value 10 RX2 (some .int) w A p s m args meth c) (x5 : Int32) (x6 : Int32) (x7 : Int32) (s0 : Int32) (s1 : Int32) (g : nt_T) {Qz : (Int32 × Int32 × nt_T) ⊕ ((Int32 × nt_T)) → Prop} (hI : ∀ (y6 : Int32) (y7 : Int32) (gy : nt_T), Qz (.inl (y6, y7, gy)) → nt_G p l e (nt_rm 3) s m args below meth c w A 0 0 Q 10 63 [(0, .ref (nt_a w (47 + 2 * i))), (2, .ref (nt_a w 8)), (3, .ref (nt_a w 9)), (5, .int x5), (6, .int y6), (7, .int y7)] [] gy) (hE0 : ∀ (y6 : Int32) (gy : nt_T), Qz (.inr (y6, gy)) → nt_G p l e (nt_rm 3) s m args below meth c w A 0 0 Q 10 225 [(0, .ref (nt_a w (47 + 2 * i))), (2, .ref (nt_a w 8)), (3, .ref (nt_a w 9)), (5, .int x5), (6, .int y6)] [] gy) (h : nt_R (jRu_value_185 nr ln i x5 x6 x7 s0 s1 g) Qz) : nt_G p l e (nt_rm 3) s m args below meth c w A 0 0 Q 10 185 [(0, .ref (nt_a w (47 + 2 * i))), (2, .ref (nt_a w 8)), (3, .ref (nt_a w 9)), (5, .int x5), (6, .int x6), (7, .int x7)] [.int s0, .int s1, .ref (nt_a w 9)] g := by
  unfold jRu_value_185 at h
  obtain ⟨q25, h⟩ := nt_R_gd h
  refine nt_iast X 9 0 (nt_lX hw (Nat.le_of_ble_eq_true rfl)) (nt_e9 hw) (nt_tX hw) q25 dX2_value_185 ?_
  obtain ⟨g26, eg26, h⟩ := nt_R_lt h
  refine nt_geq eg26 ?_
  refine nt_goto X 219 dX2_value_186 (by decide) ?_
  obtain ⟨v27, ev27, h⟩ := nt_R_lt h
  refine nt_iinc X v27 [(7, .int v27), (0, .ref (nt_a w (47 + 2 * i))), (2, .ref (nt_a w 8)), (3, .ref (nt_a w 9)), (5, .int x5), (6, .int x6)] dX2_value_219 5 rfl (by rw [nt_ci_1]; exact ev27) (by decide) rfl ?_
  refine nt_goto X 63 dX2_value_222 (by decide) ?_
  refine nt_sub [1, 2, 3, 4, 5, 0] rfl ?_
  have h := nt_R_some h
  exact hI x6 v27 g26 h
def jRu_value_143 (nr : Nat) (ln : Nat → Nat) (i : Nat) (x5 : Int32) (x6 : Int32) (x7 : Int32) (x8 : Int32) (g : nt_T) : Option ((Int32 × Int32 × nt_T) ⊕ ((Int32 × nt_T))) :=
  (if x6 < (1 : Int32) then
    (nt_lt (x7 + (1 : Int32)) fun v20 => some (.inl (x6, v20, g)))
  else
    (nt_gd (nt_in (x6 - (1 : Int32)) 31) <| nt_lt (g 9 (Int32.toNatClampNeg (x6 - (1 : Int32)))) fun v22 => (if x8 = (20 : Int32) then
    (jRu_value_185 nr ln i x5 x6 x7 (-v22) (x6 - (1 : Int32)) g)
  else
    ((if v22 = 0 then
    (jRu_value_185 nr ln i x5 x6 x7 (1 : Int32) (x6 - (1 : Int32)) g)
  else
    (jRu_value_185 nr ln i x5 x6 x7 (0 : Int32) (x6 - (1 : Int32)) g))))))
set_option maxRecDepth 100000 in
set_option maxHeartbeats 4000000 in
theorem tjRu_value_143 {p : Program} {l : Launch} {e : Env} {s : State} {m : MethodId} {args : Array Value} {below : List Frame} {meth : Method} {c : Code} {w : nt_w} {A : Nat → Prop} {nr : Nat} {ln : Nat → Nat} {i : Nat} (hw : nt_isX w)  (hR : nt_isR w nr ln) (hi : i < nr) {Q : State → Prop} (X : nt_X cX2_value 10 RX2 (some .int) w A p s m args meth c) (x5 : Int32) (x6 : Int32) (x7 : Int32) (x8 : Int32) (g : nt_T) {Qz : (Int32 × Int32 × nt_T) ⊕ ((Int32 × nt_T)) → Prop} (hI : ∀ (y6 : Int32) (y7 : Int32) (gy : nt_T), Qz (.inl (y6, y7, gy)) → nt_G p l e (nt_rm 3) s m args below meth c w A 0 0 Q 10 63 [(0, .ref (nt_a w (47 + 2 * i))), (2, .ref (nt_a w 8)), (3, .ref (nt_a w 9)), (5, .int x5), (6, .int y6), (7, .int y7)] [] gy) (hE0 : ∀ (y6 : Int32) (gy : nt_T), Qz (.inr (y6, gy)) → nt_G p l e (nt_rm 3) s m args below meth c w A 0 0 Q 10 225 [(0, .ref (nt_a w (47 + 2 * i))), (2, .ref (nt_a w 8)), (3, .ref (nt_a w 9)), (5, .int x5), (6, .int y6)] [] gy) (h : nt_R (jRu_value_143 nr ln i x5 x6 x7 x8 g) Qz) : nt_G p l e (nt_rm 3) s m args below meth c w A 0 0 Q 10 143 [(0, .ref (nt_a w (47 + 2 * i))), (2, .ref (nt_a w 8)), (3, .ref (nt_a w 9)), (5, .int x5), (6, .int x6), (7, .int x7), (8, .int x8)] [] g := by
  unfold jRu_value_143 at h
  refine nt_iload X dX2_value_143 4 rfl ?_
  refine nt_iconst X dX2_value_145 nt_ci_1 ?_
  obtain ⟨ht, hf⟩ := nt_R_if h
  refine nt_icmp_lt X 219 dX2_value_146 (by decide) (fun q19 => ?_) (fun q19 => ?_)
  · have h := ht q19
    obtain ⟨v20, ev20, h⟩ := nt_R_lt h
    refine nt_iinc X v20 [(7, .int v20), (0, .ref (nt_a w (47 + 2 * i))), (2, .ref (nt_a w 8)), (3, .ref (nt_a w 9)), (5, .int x5), (6, .int x6), (8, .int x8)] dX2_value_219 5 rfl (by rw [nt_ci_1]; exact ev20) (by decide) rfl ?_
    refine nt_goto X 63 dX2_value_222 (by decide) ?_
    refine nt_sub [1, 2, 3, 4, 5, 0] rfl ?_
    have h := nt_R_some h
    exact hI x6 v20 g h
  · have h := hf q19
    refine nt_aload_n X dX2_value_149 rfl 2 rfl ?_
    refine nt_iload X dX2_value_150 4 rfl ?_
    refine nt_iconst X dX2_value_152 nt_ci_1 ?_
    refine nt_isub X dX2_value_153 ?_
    obtain ⟨q21, h⟩ := nt_R_gd h
    refine nt_iald X 9 0 (nt_lX hw (Nat.le_of_ble_eq_true rfl)) (nt_e9 hw) (nt_tX hw) q21 dX2_value_154 ?_
    obtain ⟨v22, ev22, h⟩ := nt_R_lt h
    refine nt_topi ev22 ?_
    refine nt_istore X [(9, .int v22), (0, .ref (nt_a w (47 + 2 * i))), (2, .ref (nt_a w 8)), (3, .ref (nt_a w 9)), (5, .int x5), (6, .int x6), (7, .int x7), (8, .int x8)] dX2_value_155 (by decide) rfl ?_
    refine nt_aload_n X dX2_value_157 rfl 3 rfl ?_
    refine nt_iload X dX2_value_158 5 rfl ?_
    refine nt_iconst X dX2_value_160 nt_ci_1 ?_
    refine nt_isub X dX2_value_161 ?_
    refine nt_iload X dX2_value_162 7 rfl ?_
    refine nt_bipush X dX2_value_164 nt_cb_20 ?_
    obtain ⟨ht, hf⟩ := nt_R_if h
    refine nt_icmp_ne X 175 dX2_value_166 (by decide) (fun q23 => ?_) (fun q23 => ?_)
    · have h := hf q23
      refine nt_iload X dX2_value_175 0 rfl ?_
      obtain ⟨ht, hf⟩ := nt_R_if h
      refine nt_if_ne X 184 dX2_value_177 (by decide) (fun q24 => ?_) (fun q24 => ?_)
      · have h := hf q24
        refine nt_iconst X dX2_value_184 nt_ci_0 ?_
        refine nt_sub [1, 2, 3, 4, 5, 6] rfl ?_
        exact tjRu_value_185 hw  hR hi X x5 x6 x7 (0 : Int32) (x6 - (1 : Int32)) g hI hE0 h
      · have h := ht q24
        refine nt_iconst X dX2_value_180 nt_ci_1 ?_
        refine nt_goto X 185 dX2_value_181 (by decide) ?_
        refine nt_sub [1, 2, 3, 4, 5, 6] rfl ?_
        exact tjRu_value_185 hw  hR hi X x5 x6 x7 (1 : Int32) (x6 - (1 : Int32)) g hI hE0 h
    · have h := ht q23
      refine nt_iload X dX2_value_169 0 rfl ?_
      refine nt_ineg X dX2_value_171 ?_
      refine nt_goto X 185 dX2_value_172 (by decide) ?_
      refine nt_sub [1, 2, 3, 4, 5, 6] rfl ?_
      exact tjRu_value_185 hw  hR hi X x5 x6 x7 (-v22) (x6 - (1 : Int32)) g hI hE0 h
def bRu_value_63 (nr : Nat) (ln : Nat → Nat) (i : Nat) (x5 : Int32) (x6 : Int32) (x7 : Int32) (g : nt_T) : Option ((Int32 × Int32 × nt_T) ⊕ ((Int32 × nt_T))) :=
  (if x5 ≤ x7 then
    (some (.inr (x6, g)))
  else
    (nt_gd (nt_in x7 (ln i)) <| nt_lt (g (48 + 2 * i) (Int32.toNatClampNeg x7)) fun v7 => (if v7 < (6 : Int32) then
    (jRu_value_93 nr ln i x5 x6 x7 v7 g)
  else
    ((if v7 < (32 : Int32) then
    ((if v7 = (8 : Int32) then
    (jRu_value_143 nr ln i x5 x6 x7 v7 g)
  else
    ((if v7 = (20 : Int32) then
    (jRu_value_143 nr ln i x5 x6 x7 v7 g)
  else
    ((if x6 < (2 : Int32) then
    (nt_lt (x7 + (1 : Int32)) fun v30 => some (.inl (x6, v30, g)))
  else
    (nt_lt (x6 + (-1 : Int32)) fun v31 => nt_gd (nt_in (v31 - (1 : Int32)) 31) <| nt_gd (nt_in v31 31) <| nt_b1 (fRu_joined v7 (g 9 (Int32.toNatClampNeg (v31 - (1 : Int32)))) (g 9 (Int32.toNatClampNeg v31)) g) fun r34 => nt_gd (nt_in (v31 - (1 : Int32)) 31) <| nt_lt (nt_st g 9 (Int32.toNatClampNeg (v31 - (1 : Int32))) r34) fun g36 => nt_lt (x7 + (1 : Int32)) fun v37 => some (.inl (v31, v37, g36)))))))))
  else
    (jRu_value_93 nr ln i x5 x6 x7 v7 g))))))
set_option maxRecDepth 100000 in
set_option maxHeartbeats 4000000 in
theorem tbRu_value_63 {p : Program} {l : Launch} {e : Env} {s : State} {m : MethodId} {args : Array Value} {below : List Frame} {meth : Method} {c : Code} {w : nt_w} {A : Nat → Prop} {nr : Nat} {ln : Nat → Nat} {i : Nat} (hw : nt_isX w)  (hR : nt_isR w nr ln) (hi : i < nr) {Q : State → Prop} (X : nt_X cX2_value 10 RX2 (some .int) w A p s m args meth c) (x5 : Int32)  {Qx : ((Int32 × nt_T)) → Prop} (hE0 : ∀ (y6 : Int32) (gy : nt_T), Qx (y6, gy) → nt_G p l e (nt_rm 3) s m args below meth c w A 0 0 Q 10 225 [(0, .ref (nt_a w (47 + 2 * i))), (2, .ref (nt_a w 8)), (3, .ref (nt_a w 9)), (5, .int x5), (6, .int y6)] [] gy) : ∀ (n : Nat) (x6 : Int32) (x7 : Int32) (g : nt_T), nt_R (nt_it (fun z => bRu_value_63 nr ln i x5 z.1 z.2.1 z.2.2) n (x6, x7, g)) Qx → nt_G p l e (nt_rm 3) s m args below meth c w A 0 0 Q 10 63 [(0, .ref (nt_a w (47 + 2 * i))), (2, .ref (nt_a w 8)), (3, .ref (nt_a w 9)), (5, .int x5), (6, .int x6), (7, .int x7)] [] g := by
  intro n
  induction n with
  | zero =>
    intro x6 x7 g h
    exact nt_R_none h
  | succ n ih =>
    intro x6 x7 g h
    have h : nt_R (bRu_value_63 nr ln i x5 x6 x7 g) (nt_Qz (fun z => bRu_value_63 nr ln i x5 z.1 z.2.1 z.2.2) n Qx) := nt_R_it h
    have hI : ∀ (y6 : Int32) (y7 : Int32) (gy : nt_T), nt_Qz (fun z => bRu_value_63 nr ln i x5 z.1 z.2.1 z.2.2) n Qx (.inl (y6, y7, gy)) → nt_G p l e (nt_rm 3) s m args below meth c w A 0 0 Q 10 63 [(0, .ref (nt_a w (47 + 2 * i))), (2, .ref (nt_a w 8)), (3, .ref (nt_a w 9)), (5, .int x5), (6, .int y6), (7, .int y7)] [] gy := fun y6 y7 gy q => ih y6 y7 gy q
    have hE0 : ∀ (y6 : Int32) (gy : nt_T), nt_Qz (fun z => bRu_value_63 nr ln i x5 z.1 z.2.1 z.2.2) n Qx (.inr (y6, gy)) → nt_G p l e (nt_rm 3) s m args below meth c w A 0 0 Q 10 225 [(0, .ref (nt_a w (47 + 2 * i))), (2, .ref (nt_a w 8)), (3, .ref (nt_a w 9)), (5, .int x5), (6, .int y6)] [] gy := hE0
    generalize nt_Qz (fun z => bRu_value_63 nr ln i x5 z.1 z.2.1 z.2.2) n Qx = Qz at h hI hE0
    unfold bRu_value_63 at h
    refine nt_iload X dX2_value_63 5 rfl ?_
    refine nt_iload X dX2_value_65 3 rfl ?_
    obtain ⟨ht, hf⟩ := nt_R_if h
    refine nt_icmp_ge X 225 dX2_value_67 (by decide) (fun q5 => ?_) (fun q5 => ?_)
    · have h := ht q5
      refine nt_sub [0, 1, 2, 3, 4] rfl ?_
      have h := nt_R_some h
      exact hE0 x6 g h
    · have h := hf q5
      refine nt_aload_n X dX2_value_70 rfl 0 rfl ?_
      refine nt_get X (47 + 2 * i) inX2 (nt_lR hR hi) (nt_eR hR hi) rfl (j := 0) (by decide) wd_231 (v := .ref (nt_a w (48 + 2 * i))) rfl dX2_value_71 ?_
      refine nt_iload X dX2_value_74 5 rfl ?_
      obtain ⟨q6, h⟩ := nt_R_gd h
      refine nt_iald X (48 + 2 * i) 0 (nt_lC hR hi) (nt_eC hR hi) (nt_tX hw) q6 dX2_value_76 ?_
      obtain ⟨v7, ev7, h⟩ := nt_R_lt h
      refine nt_topi ev7 ?_
      refine nt_istore X [(8, .int v7), (0, .ref (nt_a w (47 + 2 * i))), (2, .ref (nt_a w 8)), (3, .ref (nt_a w 9)), (5, .int x5), (6, .int x6), (7, .int x7)] dX2_value_77 (by decide) rfl ?_
      refine nt_iload X dX2_value_79 0 rfl ?_
      refine nt_bipush X dX2_value_81 nt_cb_6 ?_
      obtain ⟨ht, hf⟩ := nt_R_if h
      refine nt_icmp_lt X 93 dX2_value_83 (by decide) (fun q8 => ?_) (fun q8 => ?_)
      · have h := ht q8
        refine nt_sub [1, 2, 3, 4, 5, 6, 0] rfl ?_
        exact tjRu_value_93 hw  hR hi X x5 x6 x7 v7 g hI hE0 h
      · have h := hf q8
        refine nt_iload X dX2_value_86 0 rfl ?_
        refine nt_bipush X dX2_value_88 nt_cb_32 ?_
        obtain ⟨ht, hf⟩ := nt_R_if h
        refine nt_icmp_lt X 129 dX2_value_90 (by decide) (fun q17 => ?_) (fun q17 => ?_)
        · have h := ht q17
          refine nt_iload X dX2_value_129 0 rfl ?_
          refine nt_bipush X dX2_value_131 nt_cb_8 ?_
          obtain ⟨ht, hf⟩ := nt_R_if h
          refine nt_icmp_eq X 143 dX2_value_133 (by decide) (fun q18 => ?_) (fun q18 => ?_)
          · have h := ht q18
            refine nt_sub [1, 2, 3, 4, 5, 6, 0] rfl ?_
            exact tjRu_value_143 hw  hR hi X x5 x6 x7 v7 g hI hE0 h
          · have h := hf q18
            refine nt_iload X dX2_value_136 0 rfl ?_
            refine nt_bipush X dX2_value_138 nt_cb_20 ?_
            obtain ⟨ht, hf⟩ := nt_R_if h
            refine nt_icmp_ne X 189 dX2_value_140 (by decide) (fun q28 => ?_) (fun q28 => ?_)
            · have h := hf q28
              refine nt_iload X dX2_value_189 5 rfl ?_
              refine nt_iconst X dX2_value_191 nt_ci_2 ?_
              obtain ⟨ht, hf⟩ := nt_R_if h
              refine nt_icmp_lt X 219 dX2_value_192 (by decide) (fun q29 => ?_) (fun q29 => ?_)
              · have h := ht q29
                obtain ⟨v30, ev30, h⟩ := nt_R_lt h
                refine nt_iinc X v30 [(7, .int v30), (8, .int v7), (0, .ref (nt_a w (47 + 2 * i))), (2, .ref (nt_a w 8)), (3, .ref (nt_a w 9)), (5, .int x5), (6, .int x6)] dX2_value_219 6 rfl (by rw [nt_ci_1]; exact ev30) (by decide) rfl ?_
                refine nt_goto X 63 dX2_value_222 (by decide) ?_
                refine nt_sub [2, 3, 4, 5, 6, 0] rfl ?_
                have h := nt_R_some h
                exact hI x6 v30 g h
              · have h := hf q29
                obtain ⟨v31, ev31, h⟩ := nt_R_lt h
                refine nt_iinc X v31 [(6, .int v31), (8, .int v7), (0, .ref (nt_a w (47 + 2 * i))), (2, .ref (nt_a w 8)), (3, .ref (nt_a w 9)), (5, .int x5), (7, .int x7)] dX2_value_195 5 rfl (by rw [nt_ci_m1]; exact ev31) (by decide) rfl ?_
                refine nt_aload_n X dX2_value_198 rfl 4 rfl ?_
                refine nt_iload X dX2_value_199 0 rfl ?_
                refine nt_iconst X dX2_value_201 nt_ci_1 ?_
                refine nt_isub X dX2_value_202 ?_
                refine nt_iload X dX2_value_203 1 rfl ?_
                refine nt_aload_n X dX2_value_205 rfl 4 rfl ?_
                refine nt_iload X dX2_value_206 0 rfl ?_
                refine nt_iconst X dX2_value_208 nt_ci_1 ?_
                refine nt_isub X dX2_value_209 ?_
                obtain ⟨q32, h⟩ := nt_R_gd h
                refine nt_iald X 9 0 (nt_lX hw (Nat.le_of_ble_eq_true rfl)) (nt_e9 hw) (nt_tX hw) q32 dX2_value_210 ?_
                refine nt_aload_n X dX2_value_211 rfl 4 rfl ?_
                refine nt_iload X dX2_value_212 0 rfl ?_
                obtain ⟨q33, h⟩ := nt_R_gd h
                refine nt_iald X 9 0 (nt_lX hw (Nat.le_of_ble_eq_true rfl)) (nt_e9 hw) (nt_tX hw) q33 dX2_value_214 ?_
                obtain ⟨r34, er34, h⟩ := nt_R_b1 h
                refine nt_cSi X (As := [.int v7, .int (g 9 (Int32.toNatClampNeg (v31 - (1 : Int32)))), .int (g 9 (Int32.toNatClampNeg v31))]) (cRu_joined hw er34) wd_446 wd_444 wd_445 wd_11 hd_X2_joined ⟨Nat.le_of_ble_eq_true rfl, Nat.le_of_ble_eq_true rfl⟩ ⟨Nat.le_refl 0, Nat.le_refl 0⟩ (Nat.le_of_ble_eq_true rfl) rfl dX2_value_215 ?_
                obtain ⟨q35, h⟩ := nt_R_gd h
                refine nt_iast X 9 0 (nt_lX hw (Nat.le_of_ble_eq_true rfl)) (nt_e9 hw) (nt_tX hw) q35 dX2_value_218 ?_
                obtain ⟨g36, eg36, h⟩ := nt_R_lt h
                refine nt_geq eg36 ?_
                obtain ⟨v37, ev37, h⟩ := nt_R_lt h
                refine nt_iinc X v37 [(7, .int v37), (6, .int v31), (8, .int v7), (0, .ref (nt_a w (47 + 2 * i))), (2, .ref (nt_a w 8)), (3, .ref (nt_a w 9)), (5, .int x5)] dX2_value_219 6 rfl (by rw [nt_ci_1]; exact ev37) (by decide) rfl ?_
                refine nt_goto X 63 dX2_value_222 (by decide) ?_
                refine nt_sub [3, 4, 5, 6, 1, 0] rfl ?_
                have h := nt_R_some h
                exact hI v31 v37 g36 h
            · have h := ht q28
              refine nt_sub [1, 2, 3, 4, 5, 6, 0] rfl ?_
              exact tjRu_value_143 hw  hR hi X x5 x6 x7 v7 g hI hE0 h
        · have h := hf q17
          refine nt_sub [1, 2, 3, 4, 5, 6, 0] rfl ?_
          exact tjRu_value_93 hw  hR hi X x5 x6 x7 v7 g hI hE0 h
def jRu_value_54 (nr : Nat) (ln : Nat → Nat) (i : Nat) (x4 : Int32) (s0 : Int32) (g : nt_T) : Option (Int32 × nt_T) :=
  (nt_b1 (nt_it (fun z => bRu_value_63 nr ln i s0 z.1 z.2.1 z.2.2) nt_fu ((0 : Int32), x4, g)) fun z42 => match z42 with
  | (v38, g39) => (if v38 < (1 : Int32) then
    (some ((0 : Int32), g39))
  else
    (nt_gd (nt_in (0 : Int32) 31) <| some ((g39 9 (Int32.toNatClampNeg (0 : Int32))), g39))))
set_option maxRecDepth 100000 in
set_option maxHeartbeats 4000000 in
theorem tjRu_value_54 {p : Program} {l : Launch} {e : Env} {s : State} {m : MethodId} {args : Array Value} {below : List Frame} {meth : Method} {c : Code} {w : nt_w} {A : Nat → Prop} {nr : Nat} {ln : Nat → Nat} {i : Nat} (hw : nt_isX w)  (hR : nt_isR w nr ln) (hi : i < nr) {r : Int32} {g2 : nt_T}  (X : nt_X cX2_value 10 RX2 (some .int) w A p s m args meth c) (x4 : Int32) (s0 : Int32) (g : nt_T) (h : nt_R (jRu_value_54 nr ln i x4 s0 g) (fun z => z = (r, g2))) : nt_G p l e (nt_rm 3) s m args below meth c w A 0 0 (nt_Qi w A below args s r g2) 10 54 [(0, .ref (nt_a w (47 + 2 * i))), (2, .ref (nt_a w 8)), (3, .ref (nt_a w 9)), (4, .int x4)] [.int s0] g := by
  unfold jRu_value_54 at h
  refine nt_istore X [(5, .int s0), (0, .ref (nt_a w (47 + 2 * i))), (2, .ref (nt_a w 8)), (3, .ref (nt_a w 9)), (4, .int x4)] dX2_value_54 (by decide) rfl ?_
  refine nt_iconst X dX2_value_56 nt_ci_0 ?_
  refine nt_istore X [(6, .int (0 : Int32)), (5, .int s0), (0, .ref (nt_a w (47 + 2 * i))), (2, .ref (nt_a w 8)), (3, .ref (nt_a w 9)), (4, .int x4)] dX2_value_57 (by decide) rfl ?_
  refine nt_iload X dX2_value_59 5 rfl ?_
  refine nt_istore X [(7, .int x4), (6, .int (0 : Int32)), (5, .int s0), (0, .ref (nt_a w (47 + 2 * i))), (2, .ref (nt_a w 8)), (3, .ref (nt_a w 9)), (4, .int x4)] dX2_value_61 (by decide) rfl ?_
  obtain ⟨z42, hz42, h⟩ := nt_R_b1 h
  refine nt_sub [3, 4, 5, 2, 1, 0] rfl ?_
  refine tbRu_value_63 hw  hR hi X s0 (Qx := fun z => z = z42) (fun v38 g39 hq => ?_) nt_fu (0 : Int32) x4 g ⟨_, hz42, rfl⟩
  subst hq
  refine nt_iload X dX2_value_225 4 rfl ?_
  refine nt_iconst X dX2_value_227 nt_ci_1 ?_
  obtain ⟨ht, hf⟩ := nt_R_if h
  refine nt_icmp_lt X 237 dX2_value_228 (by decide) (fun q40 => ?_) (fun q40 => ?_)
  · have h := ht q40
    refine nt_iconst X dX2_value_237 nt_ci_0 ?_
    have h := nt_R_some h
    exact nt_iret X dX2_value_238 h
  · have h := hf q40
    refine nt_aload_n X dX2_value_231 rfl 2 rfl ?_
    refine nt_iconst X dX2_value_232 nt_ci_0 ?_
    obtain ⟨q41, h⟩ := nt_R_gd h
    refine nt_iald X 9 0 (nt_lX hw (Nat.le_of_ble_eq_true rfl)) (nt_e9 hw) (nt_tX hw) q41 dX2_value_233 ?_
    refine nt_goto X 238 dX2_value_234 (by decide) ?_
    have h := nt_R_some h
    exact nt_iret X dX2_value_238 h
def jRu_value_24 (nr : Nat) (ln : Nat → Nat) (i : Nat) (x1 : Int32) (s0 : Int32) (g : nt_T) : Option (Int32 × nt_T) :=
  (if x1 = 0 then
    (jRu_value_54 nr ln i s0 (g (47 + 2 * i) 1) g)
  else
    ((if x1 = (1 : Int32) then
    (jRu_value_54 nr ln i s0 (g (47 + 2 * i) 2) g)
  else
    (jRu_value_54 nr ln i s0 (Int32.ofNat (ln i)) g))))
set_option maxRecDepth 100000 in
set_option maxHeartbeats 4000000 in
theorem tjRu_value_24 {p : Program} {l : Launch} {e : Env} {s : State} {m : MethodId} {args : Array Value} {below : List Frame} {meth : Method} {c : Code} {w : nt_w} {A : Nat → Prop} {nr : Nat} {ln : Nat → Nat} {i : Nat} (hw : nt_isX w)  (hR : nt_isR w nr ln) (hi : i < nr) {r : Int32} {g2 : nt_T}  (X : nt_X cX2_value 10 RX2 (some .int) w A p s m args meth c) (x1 : Int32) (s0 : Int32) (g : nt_T) (h : nt_R (jRu_value_24 nr ln i x1 s0 g) (fun z => z = (r, g2))) : nt_G p l e (nt_rm 3) s m args below meth c w A 0 0 (nt_Qi w A below args s r g2) 10 24 [(0, .ref (nt_a w (47 + 2 * i))), (1, .int x1), (2, .ref (nt_a w 8)), (3, .ref (nt_a w 9))] [.int s0] g := by
  unfold jRu_value_24 at h
  refine nt_istore X [(4, .int s0), (0, .ref (nt_a w (47 + 2 * i))), (1, .int x1), (2, .ref (nt_a w 8)), (3, .ref (nt_a w 9))] dX2_value_24 (by decide) rfl ?_
  refine nt_iload_n X dX2_value_26 rfl 2 rfl ?_
  obtain ⟨ht, hf⟩ := nt_R_if h
  refine nt_if_ne X 37 dX2_value_27 (by decide) (fun q3 => ?_) (fun q3 => ?_)
  · have h := hf q3
    refine nt_iload_n X dX2_value_37 rfl 2 rfl ?_
    refine nt_iconst X dX2_value_38 nt_ci_1 ?_
    obtain ⟨ht, hf⟩ := nt_R_if h
    refine nt_icmp_ne X 49 dX2_value_39 (by decide) (fun q4 => ?_) (fun q4 => ?_)
    · have h := hf q4
      refine nt_aload_n X dX2_value_49 rfl 1 rfl ?_
      refine nt_get X (47 + 2 * i) inX2 (nt_lR hR hi) (nt_eR hR hi) rfl (j := 0) (by decide) wd_231 (v := .ref (nt_a w (48 + 2 * i))) rfl dX2_value_50 ?_
      refine nt_alen X (48 + 2 * i) 0 (nt_lC hR hi) (nt_eC hR hi) (nt_tX hw) rfl dX2_value_53 ?_
      refine nt_sub [1, 3, 4, 0] rfl ?_
      exact tjRu_value_54 hw  hR hi X s0 (Int32.ofNat (ln i)) g h
    · have h := ht q4
      refine nt_aload_n X dX2_value_42 rfl 1 rfl ?_
      refine nt_get X (47 + 2 * i) inX2 (nt_lR hR hi) (nt_eR hR hi) rfl (j := 2) (by decide) wd_233 (v := .int (g (47 + 2 * i) 2)) rfl dX2_value_43 ?_
      refine nt_goto X 54 dX2_value_46 (by decide) ?_
      refine nt_sub [1, 3, 4, 0] rfl ?_
      exact tjRu_value_54 hw  hR hi X s0 (g (47 + 2 * i) 2) g h
  · have h := ht q3
    refine nt_aload_n X dX2_value_30 rfl 1 rfl ?_
    refine nt_get X (47 + 2 * i) inX2 (nt_lR hR hi) (nt_eR hR hi) rfl (j := 1) (by decide) wd_232 (v := .int (g (47 + 2 * i) 1)) rfl dX2_value_31 ?_
    refine nt_goto X 54 dX2_value_34 (by decide) ?_
    refine nt_sub [1, 3, 4, 0] rfl ?_
    exact tjRu_value_54 hw  hR hi X s0 (g (47 + 2 * i) 1) g h
def fRu_value (nr : Nat) (ln : Nat → Nat) (i : Nat) (x1 : Int32) (g : nt_T) : Option (Int32 × nt_T) :=
  (if x1 = 0 then
    (jRu_value_24 nr ln i x1 (0 : Int32) g)
  else
    ((if x1 = (1 : Int32) then
    (jRu_value_24 nr ln i x1 (g (47 + 2 * i) 1) g)
  else
    (jRu_value_24 nr ln i x1 (g (47 + 2 * i) 2) g))))
set_option maxRecDepth 100000 in
set_option maxHeartbeats 4000000 in
theorem cRu_value {l : Launch} {w : nt_w} (hw : nt_isX w) {nr : Nat} {ln : Nat → Nat} {i : Nat}  (hR : nt_isR w nr ln) (hi : i < nr) {x1 : Int32} {g : nt_T} {r : Int32} {g2 : nt_T} (hf : fRu_value nr ln i x1 g = some (r, g2)) : nt_Mi l w yX2_value cX2_value 10 (some .int) 3 [.ref (nt_a w (47 + 2 * i)), .int x1, .ref (nt_a w 8), .ref (nt_a w 9)] g r g2 := by
  refine nt_Mi_of (by decide) (Nat.le_of_ble_eq_true rfl) (fun p e s m args below meth c A X => ?_)
  have X : nt_X cX2_value 10 RX2 (some .int) w A p s m args meth c := X
  have h : nt_R (fRu_value nr ln i x1 g) (fun z => z = (r, g2)) := ⟨_, hf, rfl⟩
  unfold fRu_value at h
  show nt_G p l e (nt_rm 3) s m args below meth c w A 0 0 (nt_Qi w A below args s r g2) 10 0 [(0, .ref (nt_a w (47 + 2 * i))), (1, .int x1), (2, .ref (nt_a w 8)), (3, .ref (nt_a w 9))] [] g
  refine nt_iload_n X dX2_value_0 rfl 1 rfl ?_
  obtain ⟨ht, hf⟩ := nt_R_if h
  refine nt_if_ne X 8 dX2_value_1 (by decide) (fun q1 => ?_) (fun q1 => ?_)
  · have h := hf q1
    refine nt_iload_n X dX2_value_8 rfl 1 rfl ?_
    refine nt_iconst X dX2_value_9 nt_ci_1 ?_
    obtain ⟨ht, hf⟩ := nt_R_if h
    refine nt_icmp_ne X 20 dX2_value_10 (by decide) (fun q2 => ?_) (fun q2 => ?_)
    · have h := hf q2
      refine nt_aload_n X dX2_value_20 rfl 0 rfl ?_
      refine nt_get X (47 + 2 * i) inX2 (nt_lR hR hi) (nt_eR hR hi) rfl (j := 2) (by decide) wd_233 (v := .int (g (47 + 2 * i) 2)) rfl dX2_value_21 ?_
      exact tjRu_value_24 hw  hR hi X x1 (g (47 + 2 * i) 2) g h
    · have h := ht q2
      refine nt_aload_n X dX2_value_13 rfl 0 rfl ?_
      refine nt_get X (47 + 2 * i) inX2 (nt_lR hR hi) (nt_eR hR hi) rfl (j := 1) (by decide) wd_232 (v := .int (g (47 + 2 * i) 1)) rfl dX2_value_14 ?_
      refine nt_goto X 24 dX2_value_17 (by decide) ?_
      exact tjRu_value_24 hw  hR hi X x1 (g (47 + 2 * i) 1) g h
  · have h := ht q1
    refine nt_iconst X dX2_value_4 nt_ci_0 ?_
    refine nt_goto X 24 dX2_value_5 (by decide) ?_
    exact tjRu_value_24 hw  hR hi X x1 (0 : Int32) g h
def fPp_has (b : Nat) (x1 : Int32) (g : nt_T) : Option (Int32) :=
  nt_b1 (fNt_isBelow x1 (g b 7) g) fun r1 => nt_gd (decide (narrow .boolean (.int r1) = .int r1)) <| some r1
set_option maxRecDepth 100000 in
set_option maxHeartbeats 4000000 in
theorem cPp_has {l : Launch} {w : nt_w} (hw : nt_isX w) {b : Nat} (hb : nt_isP b) {x1 : Int32} {g : nt_T} {r : Int32} (hf : fPp_has b x1 g = some r) : nt_Mi l w yX0_has cX0_has 2 (some .boolean) 3 [.ref (nt_a w b), .int x1] g r g := by
  refine nt_Mi_of (by decide) (Nat.le_of_ble_eq_true rfl) (fun p e s m args below meth c A X => ?_)
  have X : nt_X cX0_has 2 RX0 (some .boolean) w A p s m args meth c := X
  have hg : g = g := rfl
  have h : nt_R (fPp_has b x1 g) (fun z => z = r) := ⟨_, hf, rfl⟩
  unfold fPp_has at h
  show nt_G p l e (nt_rm 3) s m args below meth c w A 0 0 (nt_Qi w A below args s r g) 2 0 [(0, .ref (nt_a w b)), (1, .int x1)] [] g
  refine nt_iload_n X dX0_has_0 rfl 1 rfl ?_
  refine nt_aload_n X dX0_has_1 rfl 0 rfl ?_
  refine nt_get X b inX0 (nt_lP hw hb 0 (by decide)) (nt_eP hw hb) rfl (j := 7) (by decide) wd_257 (v := .int (g b 7)) rfl dX0_has_2 ?_
  obtain ⟨r1, er1, h⟩ := nt_R_b1 h
  refine nt_cSNi X (As := [.int x1, .int (g b 7)]) (cNt_isBelow hw er1) wd_336 nt_nm17 wd_335 wd_1 hd_X8_isBelow ⟨Nat.le_of_ble_eq_true rfl, Nat.le_of_ble_eq_true rfl⟩ ⟨Nat.le_refl 0, Nat.le_refl 0⟩ (Nat.le_of_ble_eq_true rfl) rfl dX0_has_5 ?_
  obtain ⟨q2, h⟩ := nt_R_gd h
  have h := nt_R_some h
  exact nt_zret X (of_decide_eq_true q2) dX0_has_8 (nt_pe h hg)
def fPp_sit (b : Nat) (x1 : Int32) (x2 : Int32) (x3 : Int32) (g : nt_T) : Option (nt_T) :=
  (if (g b 7) < (9 : Int32) then
    (nt_gd (nt_in (g b 7) 9) <| nt_lt (nt_st g (b + 1) (Int32.toNatClampNeg (g b 7)) x1) fun g3 => nt_gd (nt_in (g3 b 7) 9) <| nt_lt (nt_st g3 (b + 2) (Int32.toNatClampNeg (g3 b 7)) x2) fun g5 => nt_gd (nt_in (g5 b 7) 9) <| nt_lt (nt_st g5 (b + 3) (Int32.toNatClampNeg (g5 b 7)) x3) fun g7 => nt_gd (nt_in (g7 b 7) 9) <| nt_lt (nt_st g7 (b + 4) (Int32.toNatClampNeg (g7 b 7)) (0 : Int32)) fun g9 => nt_lt (nt_st g9 b 7 ((g9 b 7) + (1 : Int32))) fun g10 => some g10)
  else
    (some g))
set_option maxRecDepth 100000 in
set_option maxHeartbeats 4000000 in
theorem cPp_sit {l : Launch} {w : nt_w} (hw : nt_isX w) {b : Nat} (hb : nt_isP b) {x1 : Int32} {x2 : Int32} {x3 : Int32} {g : nt_T} {g2 : nt_T} (hf : fPp_sit b x1 x2 x3 g = some g2) : nt_Mv l w yX0_sit cX0_sit 4 none 1 [.ref (nt_a w b), .int x1, .int x2, .int x3] g g2 := by
  refine nt_Mv_of (by decide) (Nat.le_of_ble_eq_true rfl) (fun p e s m args below meth c A X => ?_)
  have X : nt_X cX0_sit 4 RX0 none w A p s m args meth c := X
  have h : nt_R (fPp_sit b x1 x2 x3 g) (fun z => z = g2) := ⟨_, hf, rfl⟩
  unfold fPp_sit at h
  show nt_G p l e (nt_rm 1) s m args below meth c w A 0 0 (nt_Qv w A below args s g2) 4 0 [(0, .ref (nt_a w b)), (1, .int x1), (2, .int x2), (3, .int x3)] [] g
  refine nt_aload_n X dX0_sit_0 rfl 0 rfl ?_
  refine nt_get X b inX0 (nt_lP hw hb 0 (by decide)) (nt_eP hw hb) rfl (j := 7) (by decide) wd_257 (v := .int (g b 7)) rfl dX0_sit_1 ?_
  refine nt_bipush X dX0_sit_4 nt_cb_9 ?_
  obtain ⟨ht, hf⟩ := nt_R_if h
  refine nt_icmp_lt X 10 dX0_sit_6 (by decide) (fun q1 => ?_) (fun q1 => ?_)
  · have h := ht q1
    refine nt_aload_n X dX0_sit_10 rfl 0 rfl ?_
    refine nt_get X b inX0 (nt_lP hw hb 0 (by decide)) (nt_eP hw hb) rfl (j := 2) (by decide) wd_252 (v := .ref (nt_a w (b + 1))) rfl dX0_sit_11 ?_
    refine nt_aload_n X dX0_sit_14 rfl 0 rfl ?_
    refine nt_get X b inX0 (nt_lP hw hb 0 (by decide)) (nt_eP hw hb) rfl (j := 7) (by decide) wd_257 (v := .int (g b 7)) rfl dX0_sit_15 ?_
    refine nt_iload_n X dX0_sit_18 rfl 1 rfl ?_
    obtain ⟨q2, h⟩ := nt_R_gd h
    refine nt_iast X (b + 1) 0 (nt_lP hw hb 1 (by decide)) (nt_eP1 hw hb) (nt_tX hw) q2 dX0_sit_19 ?_
    obtain ⟨g3, eg3, h⟩ := nt_R_lt h
    refine nt_geq eg3 ?_
    refine nt_aload_n X dX0_sit_20 rfl 0 rfl ?_
    refine nt_get X b inX0 (nt_lP hw hb 0 (by decide)) (nt_eP hw hb) rfl (j := 3) (by decide) wd_253 (v := .ref (nt_a w (b + 2))) rfl dX0_sit_21 ?_
    refine nt_aload_n X dX0_sit_24 rfl 0 rfl ?_
    refine nt_get X b inX0 (nt_lP hw hb 0 (by decide)) (nt_eP hw hb) rfl (j := 7) (by decide) wd_257 (v := .int (g3 b 7)) rfl dX0_sit_25 ?_
    refine nt_iload_n X dX0_sit_28 rfl 2 rfl ?_
    obtain ⟨q4, h⟩ := nt_R_gd h
    refine nt_iast X (b + 2) 0 (nt_lP hw hb 2 (by decide)) (nt_eP2 hw hb) (nt_tX hw) q4 dX0_sit_29 ?_
    obtain ⟨g5, eg5, h⟩ := nt_R_lt h
    refine nt_geq eg5 ?_
    refine nt_aload_n X dX0_sit_30 rfl 0 rfl ?_
    refine nt_get X b inX0 (nt_lP hw hb 0 (by decide)) (nt_eP hw hb) rfl (j := 4) (by decide) wd_254 (v := .ref (nt_a w (b + 3))) rfl dX0_sit_31 ?_
    refine nt_aload_n X dX0_sit_34 rfl 0 rfl ?_
    refine nt_get X b inX0 (nt_lP hw hb 0 (by decide)) (nt_eP hw hb) rfl (j := 7) (by decide) wd_257 (v := .int (g5 b 7)) rfl dX0_sit_35 ?_
    refine nt_iload_n X dX0_sit_38 rfl 3 rfl ?_
    obtain ⟨q6, h⟩ := nt_R_gd h
    refine nt_iast X (b + 3) 0 (nt_lP hw hb 3 (by decide)) (nt_eP3 hw hb) (nt_tX hw) q6 dX0_sit_39 ?_
    obtain ⟨g7, eg7, h⟩ := nt_R_lt h
    refine nt_geq eg7 ?_
    refine nt_aload_n X dX0_sit_40 rfl 0 rfl ?_
    refine nt_get X b inX0 (nt_lP hw hb 0 (by decide)) (nt_eP hw hb) rfl (j := 5) (by decide) wd_255 (v := .ref (nt_a w (b + 4))) rfl dX0_sit_41 ?_
    refine nt_aload_n X dX0_sit_44 rfl 0 rfl ?_
    refine nt_get X b inX0 (nt_lP hw hb 0 (by decide)) (nt_eP hw hb) rfl (j := 7) (by decide) wd_257 (v := .int (g7 b 7)) rfl dX0_sit_45 ?_
    refine nt_iconst X dX0_sit_48 nt_ci_0 ?_
    obtain ⟨q8, h⟩ := nt_R_gd h
    refine nt_iast X (b + 4) 0 (nt_lP hw hb 4 (by decide)) (nt_eP4 hw hb) (nt_tX hw) q8 dX0_sit_49 ?_
    obtain ⟨g9, eg9, h⟩ := nt_R_lt h
    refine nt_geq eg9 ?_
    refine nt_aload_n X dX0_sit_50 rfl 0 rfl ?_
    refine nt_dup X dX0_sit_51 rfl ?_
    refine nt_get X b inX0 (nt_lP hw hb 0 (by decide)) (nt_eP hw hb) rfl (j := 7) (by decide) wd_257 (v := .int (g9 b 7)) rfl dX0_sit_52 ?_
    refine nt_iconst X dX0_sit_55 nt_ci_1 ?_
    refine nt_iadd X dX0_sit_56 ?_
    refine nt_put X b inX0 (nt_lP hw hb 0 (by decide)) (nt_eP hw hb) rfl (j := 7) (by decide) wd_257 tyX0 tyX0_ok nmX0 rfl (ty := .int) rfl rfl rfl (fun _ => Nat.le_of_ble_eq_true rfl) (fun _ => rfl) dX0_sit_57 ?_
    obtain ⟨g10, eg10, h⟩ := nt_R_lt h
    refine nt_geq eg10 ?_
    have h := nt_R_some h
    exact nt_vret X dX0_sit_60 h
  · have h := hf q1
    have h := nt_R_some h
    exact nt_vret X dX0_sit_9 h
def fPp_come (b : Nat) (x1 : Int32) (x2 : Int32) (g : nt_T) : Option (Int32 × nt_T) :=
  nt_b1 (fNt_isBelow x1 (400 : Int32) g) fun r1 => (if r1 = 0 then
    (some ((-2 : Int32), g))
  else
    (nt_b1 (fNt_isBelow x2 (256 : Int32) g) fun r3 => (if r3 = 0 then
    (some ((-2 : Int32), g))
  else
    ((if (g b 7) < (8 : Int32) then
    (nt_gd (decide (¬ (100 : Int32) = 0)) <| nt_gd (decide (¬ (100 : Int32) = 0)) <| nt_b1 (fPp_sit b (x1 / (100 : Int32)) (x1 - x1 / (100 : Int32) * (100 : Int32)) x2 g) fun g8 => some (((g8 b 7) - (1 : Int32)), g8))
  else
    (some ((-4 : Int32), g)))))))
set_option maxRecDepth 100000 in
set_option maxHeartbeats 4000000 in
theorem cPp_come {l : Launch} {w : nt_w} (hw : nt_isX w) {b : Nat} (hb : nt_isP b) {x1 : Int32} {x2 : Int32} {g : nt_T} {r : Int32} {g2 : nt_T} (hf : fPp_come b x1 x2 g = some (r, g2)) : nt_Mi l w yX0_come cX0_come 3 (some .int) 3 [.ref (nt_a w b), .int x1, .int x2] g r g2 := by
  refine nt_Mi_of (by decide) (Nat.le_of_ble_eq_true rfl) (fun p e s m args below meth c A X => ?_)
  have X : nt_X cX0_come 3 RX0 (some .int) w A p s m args meth c := X
  have h : nt_R (fPp_come b x1 x2 g) (fun z => z = (r, g2)) := ⟨_, hf, rfl⟩
  unfold fPp_come at h
  show nt_G p l e (nt_rm 3) s m args below meth c w A 0 0 (nt_Qi w A below args s r g2) 3 0 [(0, .ref (nt_a w b)), (1, .int x1), (2, .int x2)] [] g
  refine nt_iload_n X dX0_come_0 rfl 1 rfl ?_
  refine nt_sipush X dX0_come_1 nt_cs_400 ?_
  obtain ⟨r1, er1, h⟩ := nt_R_b1 h
  refine nt_cSNi X (As := [.int x1, .int (400 : Int32)]) (cNt_isBelow hw er1) wd_336 nt_nm17 wd_335 wd_1 hd_X8_isBelow ⟨Nat.le_of_ble_eq_true rfl, Nat.le_of_ble_eq_true rfl⟩ ⟨Nat.le_refl 0, Nat.le_refl 0⟩ (Nat.le_of_ble_eq_true rfl) rfl dX0_come_4 ?_
  obtain ⟨ht, hf⟩ := nt_R_if h
  refine nt_if_eq X 20 dX0_come_7 (by decide) (fun q2 => ?_) (fun q2 => ?_)
  · have h := ht q2
    refine nt_bipush X dX0_come_20 nt_cb_m2 ?_
    have h := nt_R_some h
    exact nt_iret X dX0_come_22 h
  · have h := hf q2
    refine nt_iload_n X dX0_come_10 rfl 2 rfl ?_
    refine nt_sipush X dX0_come_11 nt_cs_256 ?_
    obtain ⟨r3, er3, h⟩ := nt_R_b1 h
    refine nt_cSNi X (As := [.int x2, .int (256 : Int32)]) (cNt_isBelow hw er3) wd_336 nt_nm17 wd_335 wd_1 hd_X8_isBelow ⟨Nat.le_of_ble_eq_true rfl, Nat.le_of_ble_eq_true rfl⟩ ⟨Nat.le_refl 0, Nat.le_refl 0⟩ (Nat.le_of_ble_eq_true rfl) rfl dX0_come_14 ?_
    obtain ⟨ht, hf⟩ := nt_R_if h
    refine nt_if_ne X 23 dX0_come_17 (by decide) (fun q4 => ?_) (fun q4 => ?_)
    · have h := hf q4
      refine nt_aload_n X dX0_come_23 rfl 0 rfl ?_
      refine nt_get X b inX0 (nt_lP hw hb 0 (by decide)) (nt_eP hw hb) rfl (j := 7) (by decide) wd_257 (v := .int (g b 7)) rfl dX0_come_24 ?_
      refine nt_bipush X dX0_come_27 nt_cb_8 ?_
      obtain ⟨ht, hf⟩ := nt_R_if h
      refine nt_icmp_lt X 35 dX0_come_29 (by decide) (fun q5 => ?_) (fun q5 => ?_)
      · have h := ht q5
        refine nt_aload_n X dX0_come_35 rfl 0 rfl ?_
        refine nt_iload_n X dX0_come_36 rfl 1 rfl ?_
        refine nt_bipush X dX0_come_37 nt_cb_100 ?_
        obtain ⟨q6, h⟩ := nt_R_gd h
        refine nt_idiv X dX0_come_39 (of_decide_eq_true q6) ?_
        refine nt_iload_n X dX0_come_40 rfl 1 rfl ?_
        refine nt_bipush X dX0_come_41 nt_cb_100 ?_
        obtain ⟨q7, h⟩ := nt_R_gd h
        refine nt_irem X dX0_come_43 (of_decide_eq_true q7) ?_
        refine nt_iload_n X dX0_come_44 rfl 2 rfl ?_
        obtain ⟨g8, eg8, h⟩ := nt_R_b1 h
        refine nt_cVv X (As := [.int (x1 / (100 : Int32)), .int (x1 - x1 / (100 : Int32) * (100 : Int32)), .int x2]) b (nt_lP hw hb 0 (by decide)) (nt_eP hw hb) rfl (cPp_sit hw hb eg8) wd_359 wd_357 wd_358 wd_1029 wd_13 rfl hd_X0_sit ⟨Nat.le_of_ble_eq_true rfl, Nat.le_of_ble_eq_true rfl⟩ ⟨Nat.le_refl 0, Nat.le_refl 0⟩ (Nat.le_of_ble_eq_true rfl) rfl dX0_come_45 ?_
        refine nt_aload_n X dX0_come_48 rfl 0 rfl ?_
        refine nt_get X b inX0 (nt_lP hw hb 0 (by decide)) (nt_eP hw hb) rfl (j := 7) (by decide) wd_257 (v := .int (g8 b 7)) rfl dX0_come_49 ?_
        refine nt_iconst X dX0_come_52 nt_ci_1 ?_
        refine nt_isub X dX0_come_53 ?_
        have h := nt_R_some h
        exact nt_iret X dX0_come_54 h
      · have h := hf q5
        refine nt_bipush X dX0_come_32 nt_cb_m4 ?_
        have h := nt_R_some h
        exact nt_iret X dX0_come_34 h
    · have h := ht q4
      refine nt_bipush X dX0_come_20 nt_cb_m2 ?_
      have h := nt_R_some h
      exact nt_iret X dX0_come_22 h
def fPp_goBackTo (b : Nat) (b2 : Nat) (g : nt_T) : Option (nt_T) :=
  nt_gd (nt_cpok (0 : Int32) (0 : Int32) (g b2 7) 9 9) <| nt_lt (nt_sc g (b + 1) (va_cpy (g (b2 + 1)) (g (b + 1)) (Int32.toNatClampNeg (0 : Int32)) (Int32.toNatClampNeg (0 : Int32)) (Int32.toNatClampNeg (g b2 7)))) fun g2 => nt_gd (nt_cpok (0 : Int32) (0 : Int32) (g2 b2 7) 9 9) <| nt_lt (nt_sc g2 (b + 4) (va_cpy (g2 (b2 + 4)) (g2 (b + 4)) (Int32.toNatClampNeg (0 : Int32)) (Int32.toNatClampNeg (0 : Int32)) (Int32.toNatClampNeg (g2 b2 7)))) fun g4 => nt_gd (nt_cpok (0 : Int32) (0 : Int32) ((g4 b2 7) * (8 : Int32)) 72 72) <| nt_lt (nt_sc g4 (b + 5) (va_cpy (g4 (b2 + 5)) (g4 (b + 5)) (Int32.toNatClampNeg (0 : Int32)) (Int32.toNatClampNeg (0 : Int32)) (Int32.toNatClampNeg ((g4 b2 7) * (8 : Int32))))) fun g6 => nt_lt (nt_st g6 b 8 (g6 b2 8)) fun g7 => nt_lt (nt_st g7 b 9 (g7 b2 9)) fun g8 => some g8
set_option maxRecDepth 100000 in
set_option maxHeartbeats 4000000 in
theorem cPp_goBackTo {l : Launch} {w : nt_w} (hw : nt_isX w) {b : Nat} {b2 : Nat} (hb : nt_isP b) (hb2 : nt_isP b2) {g : nt_T} {g2 : nt_T} (hf : fPp_goBackTo b b2 g = some g2) : nt_Mv l w yX0_goBackTo cX0_goBackTo 2 none 3 [.ref (nt_a w b), .ref (nt_a w b2)] g g2 := by
  refine nt_Mv_of (by decide) (Nat.le_of_ble_eq_true rfl) (fun p e s m args below meth c A X => ?_)
  have X : nt_X cX0_goBackTo 2 RX0 none w A p s m args meth c := X
  have h : nt_R (fPp_goBackTo b b2 g) (fun z => z = g2) := ⟨_, hf, rfl⟩
  unfold fPp_goBackTo at h
  show nt_G p l e (nt_rm 3) s m args below meth c w A 0 0 (nt_Qv w A below args s g2) 2 0 [(0, .ref (nt_a w b)), (1, .ref (nt_a w b2))] [] g
  refine nt_aload_n X dX0_goBackTo_0 rfl 1 rfl ?_
  refine nt_get X b2 inX0 (nt_lP hw hb2 0 (by decide)) (nt_eP hw hb2) rfl (j := 2) (by decide) wd_252 (v := .ref (nt_a w (b2 + 1))) rfl dX0_goBackTo_1 ?_
  refine nt_iconst X dX0_goBackTo_4 nt_ci_0 ?_
  refine nt_aload_n X dX0_goBackTo_5 rfl 0 rfl ?_
  refine nt_get X b inX0 (nt_lP hw hb 0 (by decide)) (nt_eP hw hb) rfl (j := 2) (by decide) wd_252 (v := .ref (nt_a w (b + 1))) rfl dX0_goBackTo_6 ?_
  refine nt_iconst X dX0_goBackTo_9 nt_ci_0 ?_
  refine nt_aload_n X dX0_goBackTo_10 rfl 1 rfl ?_
  refine nt_get X b2 inX0 (nt_lP hw hb2 0 (by decide)) (nt_eP hw hb2) rfl (j := 7) (by decide) wd_257 (v := .int (g b2 7)) rfl dX0_goBackTo_11 ?_
  obtain ⟨q1, h⟩ := nt_R_gd h
  refine nt_copy X wd_504 wd_230 wd_229 wd_12 (b2 + 1) (b + 1) 0 (nt_lP hw hb2 1 (by decide)) (nt_eP1 hw hb2) (nt_lP hw hb 1 (by decide)) (nt_eP1 hw hb) (nt_tX hw) q1 ⟨Nat.le_of_ble_eq_true rfl, Nat.le_of_ble_eq_true rfl⟩ dX0_goBackTo_14 ?_
  obtain ⟨g2, eg2, h⟩ := nt_R_lt h
  refine nt_geq eg2 ?_
  refine nt_aload_n X dX0_goBackTo_17 rfl 1 rfl ?_
  refine nt_get X b2 inX0 (nt_lP hw hb2 0 (by decide)) (nt_eP hw hb2) rfl (j := 5) (by decide) wd_255 (v := .ref (nt_a w (b2 + 4))) rfl dX0_goBackTo_18 ?_
  refine nt_iconst X dX0_goBackTo_21 nt_ci_0 ?_
  refine nt_aload_n X dX0_goBackTo_22 rfl 0 rfl ?_
  refine nt_get X b inX0 (nt_lP hw hb 0 (by decide)) (nt_eP hw hb) rfl (j := 5) (by decide) wd_255 (v := .ref (nt_a w (b + 4))) rfl dX0_goBackTo_23 ?_
  refine nt_iconst X dX0_goBackTo_26 nt_ci_0 ?_
  refine nt_aload_n X dX0_goBackTo_27 rfl 1 rfl ?_
  refine nt_get X b2 inX0 (nt_lP hw hb2 0 (by decide)) (nt_eP hw hb2) rfl (j := 7) (by decide) wd_257 (v := .int (g2 b2 7)) rfl dX0_goBackTo_28 ?_
  obtain ⟨q3, h⟩ := nt_R_gd h
  refine nt_copy X wd_504 wd_230 wd_229 wd_12 (b2 + 4) (b + 4) 0 (nt_lP hw hb2 4 (by decide)) (nt_eP4 hw hb2) (nt_lP hw hb 4 (by decide)) (nt_eP4 hw hb) (nt_tX hw) q3 ⟨Nat.le_of_ble_eq_true rfl, Nat.le_of_ble_eq_true rfl⟩ dX0_goBackTo_31 ?_
  obtain ⟨g4, eg4, h⟩ := nt_R_lt h
  refine nt_geq eg4 ?_
  refine nt_aload_n X dX0_goBackTo_34 rfl 1 rfl ?_
  refine nt_get X b2 inX0 (nt_lP hw hb2 0 (by decide)) (nt_eP hw hb2) rfl (j := 6) (by decide) wd_256 (v := .ref (nt_a w (b2 + 5))) rfl dX0_goBackTo_35 ?_
  refine nt_iconst X dX0_goBackTo_38 nt_ci_0 ?_
  refine nt_aload_n X dX0_goBackTo_39 rfl 0 rfl ?_
  refine nt_get X b inX0 (nt_lP hw hb 0 (by decide)) (nt_eP hw hb) rfl (j := 6) (by decide) wd_256 (v := .ref (nt_a w (b + 5))) rfl dX0_goBackTo_40 ?_
  refine nt_iconst X dX0_goBackTo_43 nt_ci_0 ?_
  refine nt_aload_n X dX0_goBackTo_44 rfl 1 rfl ?_
  refine nt_get X b2 inX0 (nt_lP hw hb2 0 (by decide)) (nt_eP hw hb2) rfl (j := 7) (by decide) wd_257 (v := .int (g4 b2 7)) rfl dX0_goBackTo_45 ?_
  refine nt_bipush X dX0_goBackTo_48 nt_cb_8 ?_
  refine nt_imul X dX0_goBackTo_50 ?_
  obtain ⟨q5, h⟩ := nt_R_gd h
  refine nt_copy X wd_504 wd_230 wd_229 wd_12 (b2 + 5) (b + 5) 0 (nt_lP hw hb2 5 (by decide)) (nt_eP5 hw hb2) (nt_lP hw hb 5 (by decide)) (nt_eP5 hw hb) (nt_tX hw) q5 ⟨Nat.le_of_ble_eq_true rfl, Nat.le_of_ble_eq_true rfl⟩ dX0_goBackTo_51 ?_
  obtain ⟨g6, eg6, h⟩ := nt_R_lt h
  refine nt_geq eg6 ?_
  refine nt_aload_n X dX0_goBackTo_54 rfl 0 rfl ?_
  refine nt_aload_n X dX0_goBackTo_55 rfl 1 rfl ?_
  refine nt_get X b2 inX0 (nt_lP hw hb2 0 (by decide)) (nt_eP hw hb2) rfl (j := 8) (by decide) wd_258 (v := .int (g6 b2 8)) rfl dX0_goBackTo_56 ?_
  refine nt_put X b inX0 (nt_lP hw hb 0 (by decide)) (nt_eP hw hb) rfl (j := 8) (by decide) wd_258 tyX0 tyX0_ok nmX0 rfl (ty := .int) rfl rfl rfl (fun _ => Nat.le_of_ble_eq_true rfl) (fun _ => rfl) dX0_goBackTo_59 ?_
  obtain ⟨g7, eg7, h⟩ := nt_R_lt h
  refine nt_geq eg7 ?_
  refine nt_aload_n X dX0_goBackTo_62 rfl 0 rfl ?_
  refine nt_aload_n X dX0_goBackTo_63 rfl 1 rfl ?_
  refine nt_get X b2 inX0 (nt_lP hw hb2 0 (by decide)) (nt_eP hw hb2) rfl (j := 9) (by decide) wd_259 (v := .int (g7 b2 9)) rfl dX0_goBackTo_64 ?_
  refine nt_put X b inX0 (nt_lP hw hb 0 (by decide)) (nt_eP hw hb) rfl (j := 9) (by decide) wd_259 tyX0 tyX0_ok nmX0 rfl (ty := .int) rfl rfl rfl (fun _ => Nat.le_of_ble_eq_true rfl) (fun _ => rfl) dX0_goBackTo_67 ?_
  obtain ⟨g8, eg8, h⟩ := nt_R_lt h
  refine nt_geq eg8 ?_
  have h := nt_R_some h
  exact nt_vret X dX0_goBackTo_70 h
def fPp_takeAll (b : Nat) (b2 : Nat) (g : nt_T) : Option (nt_T) :=
  nt_lt (nt_st g b 7 (g b2 7)) fun g1 => nt_gd (nt_cpok (0 : Int32) (0 : Int32) (g1 b 7) 9 9) <| nt_lt (nt_sc g1 (b + 2) (va_cpy (g1 (b2 + 2)) (g1 (b + 2)) (Int32.toNatClampNeg (0 : Int32)) (Int32.toNatClampNeg (0 : Int32)) (Int32.toNatClampNeg (g1 b 7)))) fun g3 => nt_gd (nt_cpok (0 : Int32) (0 : Int32) (g3 b 7) 9 9) <| nt_lt (nt_sc g3 (b + 3) (va_cpy (g3 (b2 + 3)) (g3 (b + 3)) (Int32.toNatClampNeg (0 : Int32)) (Int32.toNatClampNeg (0 : Int32)) (Int32.toNatClampNeg (g3 b 7)))) fun g5 => nt_b1 (fPp_goBackTo b b2 g5) fun g6 => some g6
set_option maxRecDepth 100000 in
set_option maxHeartbeats 4000000 in
theorem cPp_takeAll {l : Launch} {w : nt_w} (hw : nt_isX w) {b : Nat} {b2 : Nat} (hb : nt_isP b) (hb2 : nt_isP b2) {g : nt_T} {g2 : nt_T} (hf : fPp_takeAll b b2 g = some g2) : nt_Mv l w yX0_takeAll cX0_takeAll 2 none 5 [.ref (nt_a w b), .ref (nt_a w b2)] g g2 := by
  refine nt_Mv_of (by decide) (Nat.le_of_ble_eq_true rfl) (fun p e s m args below meth c A X => ?_)
  have X : nt_X cX0_takeAll 2 RX0 none w A p s m args meth c := X
  have h : nt_R (fPp_takeAll b b2 g) (fun z => z = g2) := ⟨_, hf, rfl⟩
  unfold fPp_takeAll at h
  show nt_G p l e (nt_rm 5) s m args below meth c w A 0 0 (nt_Qv w A below args s g2) 2 0 [(0, .ref (nt_a w b)), (1, .ref (nt_a w b2))] [] g
  refine nt_aload_n X dX0_takeAll_0 rfl 0 rfl ?_
  refine nt_aload_n X dX0_takeAll_1 rfl 1 rfl ?_
  refine nt_get X b2 inX0 (nt_lP hw hb2 0 (by decide)) (nt_eP hw hb2) rfl (j := 7) (by decide) wd_257 (v := .int (g b2 7)) rfl dX0_takeAll_2 ?_
  refine nt_put X b inX0 (nt_lP hw hb 0 (by decide)) (nt_eP hw hb) rfl (j := 7) (by decide) wd_257 tyX0 tyX0_ok nmX0 rfl (ty := .int) rfl rfl rfl (fun _ => Nat.le_of_ble_eq_true rfl) (fun _ => rfl) dX0_takeAll_5 ?_
  obtain ⟨g1, eg1, h⟩ := nt_R_lt h
  refine nt_geq eg1 ?_
  refine nt_aload_n X dX0_takeAll_8 rfl 1 rfl ?_
  refine nt_get X b2 inX0 (nt_lP hw hb2 0 (by decide)) (nt_eP hw hb2) rfl (j := 3) (by decide) wd_253 (v := .ref (nt_a w (b2 + 2))) rfl dX0_takeAll_9 ?_
  refine nt_iconst X dX0_takeAll_12 nt_ci_0 ?_
  refine nt_aload_n X dX0_takeAll_13 rfl 0 rfl ?_
  refine nt_get X b inX0 (nt_lP hw hb 0 (by decide)) (nt_eP hw hb) rfl (j := 3) (by decide) wd_253 (v := .ref (nt_a w (b + 2))) rfl dX0_takeAll_14 ?_
  refine nt_iconst X dX0_takeAll_17 nt_ci_0 ?_
  refine nt_aload_n X dX0_takeAll_18 rfl 0 rfl ?_
  refine nt_get X b inX0 (nt_lP hw hb 0 (by decide)) (nt_eP hw hb) rfl (j := 7) (by decide) wd_257 (v := .int (g1 b 7)) rfl dX0_takeAll_19 ?_
  obtain ⟨q2, h⟩ := nt_R_gd h
  refine nt_copy X wd_504 wd_230 wd_229 wd_12 (b2 + 2) (b + 2) 0 (nt_lP hw hb2 2 (by decide)) (nt_eP2 hw hb2) (nt_lP hw hb 2 (by decide)) (nt_eP2 hw hb) (nt_tX hw) q2 ⟨Nat.le_of_ble_eq_true rfl, Nat.le_of_ble_eq_true rfl⟩ dX0_takeAll_22 ?_
  obtain ⟨g3, eg3, h⟩ := nt_R_lt h
  refine nt_geq eg3 ?_
  refine nt_aload_n X dX0_takeAll_25 rfl 1 rfl ?_
  refine nt_get X b2 inX0 (nt_lP hw hb2 0 (by decide)) (nt_eP hw hb2) rfl (j := 4) (by decide) wd_254 (v := .ref (nt_a w (b2 + 3))) rfl dX0_takeAll_26 ?_
  refine nt_iconst X dX0_takeAll_29 nt_ci_0 ?_
  refine nt_aload_n X dX0_takeAll_30 rfl 0 rfl ?_
  refine nt_get X b inX0 (nt_lP hw hb 0 (by decide)) (nt_eP hw hb) rfl (j := 4) (by decide) wd_254 (v := .ref (nt_a w (b + 3))) rfl dX0_takeAll_31 ?_
  refine nt_iconst X dX0_takeAll_34 nt_ci_0 ?_
  refine nt_aload_n X dX0_takeAll_35 rfl 0 rfl ?_
  refine nt_get X b inX0 (nt_lP hw hb 0 (by decide)) (nt_eP hw hb) rfl (j := 7) (by decide) wd_257 (v := .int (g3 b 7)) rfl dX0_takeAll_36 ?_
  obtain ⟨q4, h⟩ := nt_R_gd h
  refine nt_copy X wd_504 wd_230 wd_229 wd_12 (b2 + 3) (b + 3) 0 (nt_lP hw hb2 3 (by decide)) (nt_eP3 hw hb2) (nt_lP hw hb 3 (by decide)) (nt_eP3 hw hb) (nt_tX hw) q4 ⟨Nat.le_of_ble_eq_true rfl, Nat.le_of_ble_eq_true rfl⟩ dX0_takeAll_39 ?_
  obtain ⟨g5, eg5, h⟩ := nt_R_lt h
  refine nt_geq eg5 ?_
  refine nt_aload_n X dX0_takeAll_42 rfl 0 rfl ?_
  refine nt_aload_n X dX0_takeAll_43 rfl 1 rfl ?_
  obtain ⟨g6, eg6, h⟩ := nt_R_b1 h
  refine nt_cVv X (As := [.ref (nt_a w b2)]) b (nt_lP hw hb 0 (by decide)) (nt_eP hw hb) rfl (cPp_goBackTo hw hb hb2 eg6) wd_507 wd_505 wd_506 wd_1057 wd_13 rfl hd_X0_goBackTo ⟨Nat.le_of_ble_eq_true rfl, Nat.le_of_ble_eq_true rfl⟩ ⟨Nat.le_refl 0, Nat.le_refl 0⟩ (Nat.le_of_ble_eq_true rfl) rfl dX0_takeAll_44 ?_
  have h := nt_R_some h
  exact nt_vret X dX0_takeAll_47 h
def fPp_hear (b : Nat) (x1 : Int32) (x2 : Int32) (g : nt_T) : Option (nt_T) :=
  nt_gd (nt_in x1 9) <| nt_gd (nt_in x1 9) <| nt_lt (nt_st g (b + 4) (Int32.toNatClampNeg x1) ((g (b + 4) (Int32.toNatClampNeg x1)) ||| ((1 : Int32) <<< (x2 &&& 31)))) fun g3 => nt_gd (nt_in ((x1 * (8 : Int32)) + x2) 72) <| nt_lt (nt_st g3 (b + 5) (Int32.toNatClampNeg ((x1 * (8 : Int32)) + x2)) (g3 b 8)) fun g5 => some g5
set_option maxRecDepth 100000 in
set_option maxHeartbeats 4000000 in
theorem cPp_hear {l : Launch} {w : nt_w} (hw : nt_isX w) {b : Nat} (hb : nt_isP b) {x1 : Int32} {x2 : Int32} {g : nt_T} {g2 : nt_T} (hf : fPp_hear b x1 x2 g = some g2) : nt_Mv l w yX0_hear cX0_hear 3 none 1 [.ref (nt_a w b), .int x1, .int x2] g g2 := by
  refine nt_Mv_of (by decide) (Nat.le_of_ble_eq_true rfl) (fun p e s m args below meth c A X => ?_)
  have X : nt_X cX0_hear 3 RX0 none w A p s m args meth c := X
  have h : nt_R (fPp_hear b x1 x2 g) (fun z => z = g2) := ⟨_, hf, rfl⟩
  unfold fPp_hear at h
  show nt_G p l e (nt_rm 1) s m args below meth c w A 0 0 (nt_Qv w A below args s g2) 3 0 [(0, .ref (nt_a w b)), (1, .int x1), (2, .int x2)] [] g
  refine nt_aload_n X dX0_hear_0 rfl 0 rfl ?_
  refine nt_get X b inX0 (nt_lP hw hb 0 (by decide)) (nt_eP hw hb) rfl (j := 5) (by decide) wd_255 (v := .ref (nt_a w (b + 4))) rfl dX0_hear_1 ?_
  refine nt_iload_n X dX0_hear_4 rfl 1 rfl ?_
  refine nt_dup2 X dX0_hear_5 rfl rfl ?_
  obtain ⟨q1, h⟩ := nt_R_gd h
  refine nt_iald X (b + 4) 0 (nt_lP hw hb 4 (by decide)) (nt_eP4 hw hb) (nt_tX hw) q1 dX0_hear_6 ?_
  refine nt_iconst X dX0_hear_7 nt_ci_1 ?_
  refine nt_iload_n X dX0_hear_8 rfl 2 rfl ?_
  refine nt_ishl X dX0_hear_9 ?_
  refine nt_ior X dX0_hear_10 ?_
  obtain ⟨q2, h⟩ := nt_R_gd h
  refine nt_iast X (b + 4) 0 (nt_lP hw hb 4 (by decide)) (nt_eP4 hw hb) (nt_tX hw) q2 dX0_hear_11 ?_
  obtain ⟨g3, eg3, h⟩ := nt_R_lt h
  refine nt_geq eg3 ?_
  refine nt_aload_n X dX0_hear_12 rfl 0 rfl ?_
  refine nt_get X b inX0 (nt_lP hw hb 0 (by decide)) (nt_eP hw hb) rfl (j := 6) (by decide) wd_256 (v := .ref (nt_a w (b + 5))) rfl dX0_hear_13 ?_
  refine nt_iload_n X dX0_hear_16 rfl 1 rfl ?_
  refine nt_bipush X dX0_hear_17 nt_cb_8 ?_
  refine nt_imul X dX0_hear_19 ?_
  refine nt_iload_n X dX0_hear_20 rfl 2 rfl ?_
  refine nt_iadd X dX0_hear_21 ?_
  refine nt_aload_n X dX0_hear_22 rfl 0 rfl ?_
  refine nt_get X b inX0 (nt_lP hw hb 0 (by decide)) (nt_eP hw hb) rfl (j := 8) (by decide) wd_258 (v := .int (g3 b 8)) rfl dX0_hear_23 ?_
  obtain ⟨q4, h⟩ := nt_R_gd h
  refine nt_iast X (b + 5) 0 (nt_lP hw hb 5 (by decide)) (nt_eP5 hw hb) (nt_tX hw) q4 dX0_hear_26 ?_
  obtain ⟨g5, eg5, h⟩ := nt_R_lt h
  refine nt_geq eg5 ?_
  have h := nt_R_some h
  exact nt_vret X dX0_hear_27 h
def fPp_forget (b : Nat) (x1 : Int32) (x2 : Int32) (g : nt_T) : Option (nt_T) :=
  nt_gd (nt_in x1 9) <| nt_gd (nt_in x1 9) <| nt_lt (nt_st g (b + 4) (Int32.toNatClampNeg x1) ((g (b + 4) (Int32.toNatClampNeg x1)) &&& (((1 : Int32) <<< (x2 &&& 31)) ^^^ (-1 : Int32)))) fun g3 => some g3
set_option maxRecDepth 100000 in
set_option maxHeartbeats 4000000 in
theorem cPp_forget {l : Launch} {w : nt_w} (hw : nt_isX w) {b : Nat} (hb : nt_isP b) {x1 : Int32} {x2 : Int32} {g : nt_T} {g2 : nt_T} (hf : fPp_forget b x1 x2 g = some g2) : nt_Mv l w yX0_forget cX0_forget 3 none 1 [.ref (nt_a w b), .int x1, .int x2] g g2 := by
  refine nt_Mv_of (by decide) (Nat.le_of_ble_eq_true rfl) (fun p e s m args below meth c A X => ?_)
  have X : nt_X cX0_forget 3 RX0 none w A p s m args meth c := X
  have h : nt_R (fPp_forget b x1 x2 g) (fun z => z = g2) := ⟨_, hf, rfl⟩
  unfold fPp_forget at h
  show nt_G p l e (nt_rm 1) s m args below meth c w A 0 0 (nt_Qv w A below args s g2) 3 0 [(0, .ref (nt_a w b)), (1, .int x1), (2, .int x2)] [] g
  refine nt_aload_n X dX0_forget_0 rfl 0 rfl ?_
  refine nt_get X b inX0 (nt_lP hw hb 0 (by decide)) (nt_eP hw hb) rfl (j := 5) (by decide) wd_255 (v := .ref (nt_a w (b + 4))) rfl dX0_forget_1 ?_
  refine nt_iload_n X dX0_forget_4 rfl 1 rfl ?_
  refine nt_dup2 X dX0_forget_5 rfl rfl ?_
  obtain ⟨q1, h⟩ := nt_R_gd h
  refine nt_iald X (b + 4) 0 (nt_lP hw hb 4 (by decide)) (nt_eP4 hw hb) (nt_tX hw) q1 dX0_forget_6 ?_
  refine nt_iconst X dX0_forget_7 nt_ci_1 ?_
  refine nt_iload_n X dX0_forget_8 rfl 2 rfl ?_
  refine nt_ishl X dX0_forget_9 ?_
  refine nt_iconst X dX0_forget_10 nt_ci_m1 ?_
  refine nt_ixor X dX0_forget_11 ?_
  refine nt_iand X dX0_forget_12 ?_
  obtain ⟨q2, h⟩ := nt_R_gd h
  refine nt_iast X (b + 4) 0 (nt_lP hw hb 4 (by decide)) (nt_eP4 hw hb) (nt_tX hw) q2 dX0_forget_13 ?_
  obtain ⟨g3, eg3, h⟩ := nt_R_lt h
  refine nt_geq eg3 ?_
  have h := nt_R_some h
  exact nt_vret X dX0_forget_14 h
def fPp_knows (b : Nat) (x1 : Int32) (g : nt_T) : Option (Int32) :=
  nt_gd (nt_in x1 9) <| nt_b1 (fSh_withTwins (g (b + 4) (Int32.toNatClampNeg x1)) g) fun r2 => some r2
set_option maxRecDepth 100000 in
set_option maxHeartbeats 4000000 in
theorem cPp_knows {l : Launch} {w : nt_w} (hw : nt_isX w) {b : Nat} (hb : nt_isP b) {x1 : Int32} {g : nt_T} {r : Int32} (hf : fPp_knows b x1 g = some r) : nt_Mi l w yX0_knows cX0_knows 2 (some .int) 3 [.ref (nt_a w b), .int x1] g r g := by
  refine nt_Mi_of (by decide) (Nat.le_of_ble_eq_true rfl) (fun p e s m args below meth c A X => ?_)
  have X : nt_X cX0_knows 2 RX0 (some .int) w A p s m args meth c := X
  have hg : g = g := rfl
  have h : nt_R (fPp_knows b x1 g) (fun z => z = r) := ⟨_, hf, rfl⟩
  unfold fPp_knows at h
  show nt_G p l e (nt_rm 3) s m args below meth c w A 0 0 (nt_Qi w A below args s r g) 2 0 [(0, .ref (nt_a w b)), (1, .int x1)] [] g
  refine nt_aload_n X dX0_knows_0 rfl 0 rfl ?_
  refine nt_get X b inX0 (nt_lP hw hb 0 (by decide)) (nt_eP hw hb) rfl (j := 0) (by decide) wd_250 (v := .ref (nt_a w 1)) rfl dX0_knows_1 ?_
  refine nt_aload_n X dX0_knows_4 rfl 0 rfl ?_
  refine nt_get X b inX0 (nt_lP hw hb 0 (by decide)) (nt_eP hw hb) rfl (j := 5) (by decide) wd_255 (v := .ref (nt_a w (b + 4))) rfl dX0_knows_5 ?_
  refine nt_iload_n X dX0_knows_8 rfl 1 rfl ?_
  obtain ⟨q1, h⟩ := nt_R_gd h
  refine nt_iald X (b + 4) 0 (nt_lP hw hb 4 (by decide)) (nt_eP4 hw hb) (nt_tX hw) q1 dX0_knows_9 ?_
  obtain ⟨r2, er2, h⟩ := nt_R_b1 h
  refine nt_cVNi X (As := [.int (g (b + 4) (Int32.toNatClampNeg x1))]) 1 (nt_lX hw (Nat.le_of_ble_eq_true rfl)) (nt_e1 hw) rfl (cSh_withTwins hw er2) wd_396 nt_nm24 wd_395 wd_1036 wd_2 hd_X5_withTwins ⟨Nat.le_of_ble_eq_true rfl, Nat.le_of_ble_eq_true rfl⟩ ⟨Nat.le_refl 0, Nat.le_refl 0⟩ (Nat.le_of_ble_eq_true rfl) rfl dX0_knows_10 ?_
  have h := nt_R_some h
  exact nt_iret X dX0_knows_13 (nt_pe h hg)
def bPp_lookInto_17 (b : Nat) (x1 : Int32) (x2 : Int32) (g : nt_T) : Option ((Int32 × nt_T) ⊕ ((nt_T))) :=
  (if (g b 7) ≤ x2 then
    (some (.inr g))
  else
    (nt_gd (nt_in x2 9) <| (if (g (b + 1) (Int32.toNatClampNeg x2)) = x1 then
    (nt_lt (nt_st g b 10 ((g b 10) + (1 : Int32))) fun g8 => nt_b1 (fPp_knows b x2 g8) fun r9 => nt_gd (nt_in x2 9) <| nt_lt (nt_st g8 (b + 6) (Int32.toNatClampNeg x2) r9) fun g11 => nt_gd (nt_in x2 9) <| nt_lt (nt_st g11 b 13 ((g11 b 13) ||| ((g11 b 12) &&& (g11 (b + 6) (Int32.toNatClampNeg x2))))) fun g13 => nt_gd (nt_in x2 9) <| nt_lt (nt_st g13 b 12 ((g13 b 12) ||| (g13 (b + 6) (Int32.toNatClampNeg x2)))) fun g15 => nt_lt (x2 + (1 : Int32)) fun v16 => some (.inl (v16, g15)))
  else
    (nt_lt (x2 + (1 : Int32)) fun v7 => some (.inl (v7, g))))))
set_option maxRecDepth 100000 in
set_option maxHeartbeats 4000000 in
theorem tbPp_lookInto_17 {p : Program} {l : Launch} {e : Env} {s : State} {m : MethodId} {args : Array Value} {below : List Frame} {meth : Method} {c : Code} {w : nt_w} {A : Nat → Prop} {b : Nat} (hw : nt_isX w) (hb : nt_isP b) {Q : State → Prop} (X : nt_X cX0_lookInto 3 RX0 none w A p s m args meth c) (x1 : Int32)  {Qx : ((nt_T)) → Prop} (hE0 : ∀ (gy : nt_T), Qx gy → nt_G p l e (nt_rm 5) s m args below meth c w A 0 0 Q 3 97 [(0, .ref (nt_a w b)), (1, .int x1)] [] gy) : ∀ (n : Nat) (x2 : Int32) (g : nt_T), nt_R (nt_it (fun z => bPp_lookInto_17 b x1 z.1 z.2) n (x2, g)) Qx → nt_G p l e (nt_rm 5) s m args below meth c w A 0 0 Q 3 17 [(0, .ref (nt_a w b)), (1, .int x1), (2, .int x2)] [] g := by
  intro n
  induction n with
  | zero =>
    intro x2 g h
    exact nt_R_none h
  | succ n ih =>
    intro x2 g h
    have h : nt_R (bPp_lookInto_17 b x1 x2 g) (nt_Qz (fun z => bPp_lookInto_17 b x1 z.1 z.2) n Qx) := nt_R_it h
    have hI : ∀ (y2 : Int32) (gy : nt_T), nt_Qz (fun z => bPp_lookInto_17 b x1 z.1 z.2) n Qx (.inl (y2, gy)) → nt_G p l e (nt_rm 5) s m args below meth c w A 0 0 Q 3 17 [(0, .ref (nt_a w b)), (1, .int x1), (2, .int y2)] [] gy := fun y2 gy q => ih y2 gy q
    have hE0 : ∀ (gy : nt_T), nt_Qz (fun z => bPp_lookInto_17 b x1 z.1 z.2) n Qx (.inr gy) → nt_G p l e (nt_rm 5) s m args below meth c w A 0 0 Q 3 97 [(0, .ref (nt_a w b)), (1, .int x1)] [] gy := hE0
    generalize nt_Qz (fun z => bPp_lookInto_17 b x1 z.1 z.2) n Qx = Qz at h hI hE0
    unfold bPp_lookInto_17 at h
    refine nt_iload_n X dX0_lookInto_17 rfl 2 rfl ?_
    refine nt_aload_n X dX0_lookInto_18 rfl 0 rfl ?_
    refine nt_get X b inX0 (nt_lP hw hb 0 (by decide)) (nt_eP hw hb) rfl (j := 7) (by decide) wd_257 (v := .int (g b 7)) rfl dX0_lookInto_19 ?_
    obtain ⟨ht, hf⟩ := nt_R_if h
    refine nt_icmp_ge X 97 dX0_lookInto_22 (by decide) (fun q4 => ?_) (fun q4 => ?_)
    · have h := ht q4
      refine nt_sub [0, 1] rfl ?_
      have h := nt_R_some h
      exact hE0 g h
    · have h := hf q4
      refine nt_aload_n X dX0_lookInto_25 rfl 0 rfl ?_
      refine nt_get X b inX0 (nt_lP hw hb 0 (by decide)) (nt_eP hw hb) rfl (j := 2) (by decide) wd_252 (v := .ref (nt_a w (b + 1))) rfl dX0_lookInto_26 ?_
      refine nt_iload_n X dX0_lookInto_29 rfl 2 rfl ?_
      obtain ⟨q5, h⟩ := nt_R_gd h
      refine nt_iald X (b + 1) 0 (nt_lP hw hb 1 (by decide)) (nt_eP1 hw hb) (nt_tX hw) q5 dX0_lookInto_30 ?_
      refine nt_iload_n X dX0_lookInto_31 rfl 1 rfl ?_
      obtain ⟨ht, hf⟩ := nt_R_if h
      refine nt_icmp_ne X 91 dX0_lookInto_32 (by decide) (fun q6 => ?_) (fun q6 => ?_)
      · have h := hf q6
        obtain ⟨v7, ev7, h⟩ := nt_R_lt h
        refine nt_iinc X v7 [(2, .int v7), (0, .ref (nt_a w b)), (1, .int x1)] dX0_lookInto_91 2 rfl (by rw [nt_ci_1]; exact ev7) (by decide) rfl ?_
        refine nt_goto X 17 dX0_lookInto_94 (by decide) ?_
        refine nt_sub [1, 2, 0] rfl ?_
        have h := nt_R_some h
        exact hI v7 g h
      · have h := ht q6
        refine nt_aload_n X dX0_lookInto_35 rfl 0 rfl ?_
        refine nt_dup X dX0_lookInto_36 rfl ?_
        refine nt_get X b inX0 (nt_lP hw hb 0 (by decide)) (nt_eP hw hb) rfl (j := 10) (by decide) wd_260 (v := .int (g b 10)) rfl dX0_lookInto_37 ?_
        refine nt_iconst X dX0_lookInto_40 nt_ci_1 ?_
        refine nt_iadd X dX0_lookInto_41 ?_
        refine nt_put X b inX0 (nt_lP hw hb 0 (by decide)) (nt_eP hw hb) rfl (j := 10) (by decide) wd_260 tyX0 tyX0_ok nmX0 rfl (ty := .int) rfl rfl rfl (fun _ => Nat.le_of_ble_eq_true rfl) (fun _ => rfl) dX0_lookInto_42 ?_
        obtain ⟨g8, eg8, h⟩ := nt_R_lt h
        refine nt_geq eg8 ?_
        refine nt_aload_n X dX0_lookInto_45 rfl 0 rfl ?_
        refine nt_get X b inX0 (nt_lP hw hb 0 (by decide)) (nt_eP hw hb) rfl (j := 11) (by decide) wd_261 (v := .ref (nt_a w (b + 6))) rfl dX0_lookInto_46 ?_
        refine nt_iload_n X dX0_lookInto_49 rfl 2 rfl ?_
        refine nt_aload_n X dX0_lookInto_50 rfl 0 rfl ?_
        refine nt_iload_n X dX0_lookInto_51 rfl 2 rfl ?_
        obtain ⟨r9, er9, h⟩ := nt_R_b1 h
        refine nt_cVi X (As := [.int x2]) b (nt_lP hw hb 0 (by decide)) (nt_eP hw hb) rfl (cPp_knows hw hb er9) wd_394 wd_422 wd_393 wd_1035 wd_13 rfl hd_X0_knows ⟨Nat.le_of_ble_eq_true rfl, Nat.le_of_ble_eq_true rfl⟩ ⟨Nat.le_refl 0, Nat.le_refl 0⟩ (Nat.le_of_ble_eq_true rfl) rfl dX0_lookInto_52 ?_
        obtain ⟨q10, h⟩ := nt_R_gd h
        refine nt_iast X (b + 6) 0 (nt_lP hw hb 6 (by decide)) (nt_eP6 hw hb) (nt_tX hw) q10 dX0_lookInto_55 ?_
        obtain ⟨g11, eg11, h⟩ := nt_R_lt h
        refine nt_geq eg11 ?_
        refine nt_aload_n X dX0_lookInto_56 rfl 0 rfl ?_
        refine nt_dup X dX0_lookInto_57 rfl ?_
        refine nt_get X b inX0 (nt_lP hw hb 0 (by decide)) (nt_eP hw hb) rfl (j := 13) (by decide) wd_263 (v := .int (g11 b 13)) rfl dX0_lookInto_58 ?_
        refine nt_aload_n X dX0_lookInto_61 rfl 0 rfl ?_
        refine nt_get X b inX0 (nt_lP hw hb 0 (by decide)) (nt_eP hw hb) rfl (j := 12) (by decide) wd_262 (v := .int (g11 b 12)) rfl dX0_lookInto_62 ?_
        refine nt_aload_n X dX0_lookInto_65 rfl 0 rfl ?_
        refine nt_get X b inX0 (nt_lP hw hb 0 (by decide)) (nt_eP hw hb) rfl (j := 11) (by decide) wd_261 (v := .ref (nt_a w (b + 6))) rfl dX0_lookInto_66 ?_
        refine nt_iload_n X dX0_lookInto_69 rfl 2 rfl ?_
        obtain ⟨q12, h⟩ := nt_R_gd h
        refine nt_iald X (b + 6) 0 (nt_lP hw hb 6 (by decide)) (nt_eP6 hw hb) (nt_tX hw) q12 dX0_lookInto_70 ?_
        refine nt_iand X dX0_lookInto_71 ?_
        refine nt_ior X dX0_lookInto_72 ?_
        refine nt_put X b inX0 (nt_lP hw hb 0 (by decide)) (nt_eP hw hb) rfl (j := 13) (by decide) wd_263 tyX0 tyX0_ok nmX0 rfl (ty := .int) rfl rfl rfl (fun _ => Nat.le_of_ble_eq_true rfl) (fun _ => rfl) dX0_lookInto_73 ?_
        obtain ⟨g13, eg13, h⟩ := nt_R_lt h
        refine nt_geq eg13 ?_
        refine nt_aload_n X dX0_lookInto_76 rfl 0 rfl ?_
        refine nt_dup X dX0_lookInto_77 rfl ?_
        refine nt_get X b inX0 (nt_lP hw hb 0 (by decide)) (nt_eP hw hb) rfl (j := 12) (by decide) wd_262 (v := .int (g13 b 12)) rfl dX0_lookInto_78 ?_
        refine nt_aload_n X dX0_lookInto_81 rfl 0 rfl ?_
        refine nt_get X b inX0 (nt_lP hw hb 0 (by decide)) (nt_eP hw hb) rfl (j := 11) (by decide) wd_261 (v := .ref (nt_a w (b + 6))) rfl dX0_lookInto_82 ?_
        refine nt_iload_n X dX0_lookInto_85 rfl 2 rfl ?_
        obtain ⟨q14, h⟩ := nt_R_gd h
        refine nt_iald X (b + 6) 0 (nt_lP hw hb 6 (by decide)) (nt_eP6 hw hb) (nt_tX hw) q14 dX0_lookInto_86 ?_
        refine nt_ior X dX0_lookInto_87 ?_
        refine nt_put X b inX0 (nt_lP hw hb 0 (by decide)) (nt_eP hw hb) rfl (j := 12) (by decide) wd_262 tyX0 tyX0_ok nmX0 rfl (ty := .int) rfl rfl rfl (fun _ => Nat.le_of_ble_eq_true rfl) (fun _ => rfl) dX0_lookInto_88 ?_
        obtain ⟨g15, eg15, h⟩ := nt_R_lt h
        refine nt_geq eg15 ?_
        obtain ⟨v16, ev16, h⟩ := nt_R_lt h
        refine nt_iinc X v16 [(2, .int v16), (0, .ref (nt_a w b)), (1, .int x1)] dX0_lookInto_91 2 rfl (by rw [nt_ci_1]; exact ev16) (by decide) rfl ?_
        refine nt_goto X 17 dX0_lookInto_94 (by decide) ?_
        refine nt_sub [1, 2, 0] rfl ?_
        have h := nt_R_some h
        exact hI v16 g15 h
def fPp_lookInto (b : Nat) (x1 : Int32) (g : nt_T) : Option (nt_T) :=
  nt_lt (nt_st g b 10 (0 : Int32)) fun g1 => nt_lt (nt_st g1 b 12 (0 : Int32)) fun g2 => nt_lt (nt_st g2 b 13 (0 : Int32)) fun g3 => (nt_b1 (nt_it (fun z => bPp_lookInto_17 b x1 z.1 z.2) nt_fu ((0 : Int32), g3)) fun g17 => some g17)
set_option maxRecDepth 100000 in
set_option maxHeartbeats 4000000 in
theorem cPp_lookInto {l : Launch} {w : nt_w} (hw : nt_isX w) {b : Nat} (hb : nt_isP b) {x1 : Int32} {g : nt_T} {g2 : nt_T} (hf : fPp_lookInto b x1 g = some g2) : nt_Mv l w yX0_lookInto cX0_lookInto 3 none 5 [.ref (nt_a w b), .int x1] g g2 := by
  refine nt_Mv_of (by decide) (Nat.le_of_ble_eq_true rfl) (fun p e s m args below meth c A X => ?_)
  have X : nt_X cX0_lookInto 3 RX0 none w A p s m args meth c := X
  have h : nt_R (fPp_lookInto b x1 g) (fun z => z = g2) := ⟨_, hf, rfl⟩
  unfold fPp_lookInto at h
  show nt_G p l e (nt_rm 5) s m args below meth c w A 0 0 (nt_Qv w A below args s g2) 3 0 [(0, .ref (nt_a w b)), (1, .int x1)] [] g
  refine nt_aload_n X dX0_lookInto_0 rfl 0 rfl ?_
  refine nt_iconst X dX0_lookInto_1 nt_ci_0 ?_
  refine nt_put X b inX0 (nt_lP hw hb 0 (by decide)) (nt_eP hw hb) rfl (j := 10) (by decide) wd_260 tyX0 tyX0_ok nmX0 rfl (ty := .int) rfl rfl rfl (fun _ => Nat.le_of_ble_eq_true rfl) (fun _ => rfl) dX0_lookInto_2 ?_
  obtain ⟨g1, eg1, h⟩ := nt_R_lt h
  refine nt_geq eg1 ?_
  refine nt_aload_n X dX0_lookInto_5 rfl 0 rfl ?_
  refine nt_iconst X dX0_lookInto_6 nt_ci_0 ?_
  refine nt_put X b inX0 (nt_lP hw hb 0 (by decide)) (nt_eP hw hb) rfl (j := 12) (by decide) wd_262 tyX0 tyX0_ok nmX0 rfl (ty := .int) rfl rfl rfl (fun _ => Nat.le_of_ble_eq_true rfl) (fun _ => rfl) dX0_lookInto_7 ?_
  obtain ⟨g2, eg2, h⟩ := nt_R_lt h
  refine nt_geq eg2 ?_
  refine nt_aload_n X dX0_lookInto_10 rfl 0 rfl ?_
  refine nt_iconst X dX0_lookInto_11 nt_ci_0 ?_
  refine nt_put X b inX0 (nt_lP hw hb 0 (by decide)) (nt_eP hw hb) rfl (j := 13) (by decide) wd_263 tyX0 tyX0_ok nmX0 rfl (ty := .int) rfl rfl rfl (fun _ => Nat.le_of_ble_eq_true rfl) (fun _ => rfl) dX0_lookInto_12 ?_
  obtain ⟨g3, eg3, h⟩ := nt_R_lt h
  refine nt_geq eg3 ?_
  refine nt_iconst X dX0_lookInto_15 nt_ci_0 ?_
  refine nt_istore_n X [(2, .int (0 : Int32)), (0, .ref (nt_a w b)), (1, .int x1)] dX0_lookInto_16 rfl (by decide) rfl ?_
  obtain ⟨z18, hz18, h⟩ := nt_R_b1 h
  refine nt_sub [1, 2, 0] rfl ?_
  refine tbPp_lookInto_17 hw hb X x1 (Qx := fun z => z = z18) (fun g17 hq => ?_) nt_fu (0 : Int32) g3 ⟨_, hz18, rfl⟩
  subst hq
  have h := nt_R_some h
  exact nt_vret X dX0_lookInto_97 h
def fPp_newToOthers (b : Nat) (x1 : Int32) (g : nt_T) : Option (Int32) :=
  nt_b1 (fSh_all g) fun r1 => nt_gd (nt_in x1 9) <| some ((r1 &&& ((g b 13) ^^^ (-1 : Int32))) &&& (((g b 12) &&& ((g (b + 6) (Int32.toNatClampNeg x1)) ^^^ (-1 : Int32))) ^^^ (-1 : Int32)))
set_option maxRecDepth 100000 in
set_option maxHeartbeats 4000000 in
theorem cPp_newToOthers {l : Launch} {w : nt_w} (hw : nt_isX w) {b : Nat} (hb : nt_isP b) {x1 : Int32} {g : nt_T} {r : Int32} (hf : fPp_newToOthers b x1 g = some r) : nt_Mi l w yX0_newToOthers cX0_newToOthers 2 (some .int) 3 [.ref (nt_a w b), .int x1] g r g := by
  refine nt_Mi_of (by decide) (Nat.le_of_ble_eq_true rfl) (fun p e s m args below meth c A X => ?_)
  have X : nt_X cX0_newToOthers 2 RX0 (some .int) w A p s m args meth c := X
  have hg : g = g := rfl
  have h : nt_R (fPp_newToOthers b x1 g) (fun z => z = r) := ⟨_, hf, rfl⟩
  unfold fPp_newToOthers at h
  show nt_G p l e (nt_rm 3) s m args below meth c w A 0 0 (nt_Qi w A below args s r g) 2 0 [(0, .ref (nt_a w b)), (1, .int x1)] [] g
  refine nt_aload_n X dX0_newToOthers_0 rfl 0 rfl ?_
  refine nt_get X b inX0 (nt_lP hw hb 0 (by decide)) (nt_eP hw hb) rfl (j := 0) (by decide) wd_250 (v := .ref (nt_a w 1)) rfl dX0_newToOthers_1 ?_
  obtain ⟨r1, er1, h⟩ := nt_R_b1 h
  refine nt_cVNi X (As := []) 1 (nt_lX hw (Nat.le_of_ble_eq_true rfl)) (nt_e1 hw) rfl (cSh_all hw er1) wd_430 nt_nm31 wd_429 wd_1043 wd_2 hd_X5_all ⟨Nat.le_of_ble_eq_true rfl, Nat.le_of_ble_eq_true rfl⟩ ⟨Nat.le_refl 0, Nat.le_refl 0⟩ (Nat.le_of_ble_eq_true rfl) rfl dX0_newToOthers_4 ?_
  refine nt_aload_n X dX0_newToOthers_7 rfl 0 rfl ?_
  refine nt_get X b inX0 (nt_lP hw hb 0 (by decide)) (nt_eP hw hb) rfl (j := 13) (by decide) wd_263 (v := .int (g b 13)) rfl dX0_newToOthers_8 ?_
  refine nt_iconst X dX0_newToOthers_11 nt_ci_m1 ?_
  refine nt_ixor X dX0_newToOthers_12 ?_
  refine nt_iand X dX0_newToOthers_13 ?_
  refine nt_aload_n X dX0_newToOthers_14 rfl 0 rfl ?_
  refine nt_get X b inX0 (nt_lP hw hb 0 (by decide)) (nt_eP hw hb) rfl (j := 12) (by decide) wd_262 (v := .int (g b 12)) rfl dX0_newToOthers_15 ?_
  refine nt_aload_n X dX0_newToOthers_18 rfl 0 rfl ?_
  refine nt_get X b inX0 (nt_lP hw hb 0 (by decide)) (nt_eP hw hb) rfl (j := 11) (by decide) wd_261 (v := .ref (nt_a w (b + 6))) rfl dX0_newToOthers_19 ?_
  refine nt_iload_n X dX0_newToOthers_22 rfl 1 rfl ?_
  obtain ⟨q2, h⟩ := nt_R_gd h
  refine nt_iald X (b + 6) 0 (nt_lP hw hb 6 (by decide)) (nt_eP6 hw hb) (nt_tX hw) q2 dX0_newToOthers_23 ?_
  refine nt_iconst X dX0_newToOthers_24 nt_ci_m1 ?_
  refine nt_ixor X dX0_newToOthers_25 ?_
  refine nt_iand X dX0_newToOthers_26 ?_
  refine nt_iconst X dX0_newToOthers_27 nt_ci_m1 ?_
  refine nt_ixor X dX0_newToOthers_28 ?_
  refine nt_iand X dX0_newToOthers_29 ?_
  have h := nt_R_some h
  exact nt_iret X dX0_newToOthers_30 (nt_pe h hg)
def fPp_value (nr : Nat) (ln : Nat → Nat) (b : Nat) (x1 : Int32) (x2 : Int32) (x3 : Int32) (x4 : Int32) (g : nt_T) : Option (Int32 × nt_T) :=
  nt_b1 (fTx_at nr ln (g b 9) g) fun r1 => nt_gd (decide (r1 < nr)) <| nt_gd (nt_in x2 9) <| nt_gd (nt_in (0 : Int32) 6) <| nt_lt (nt_st g 8 (Int32.toNatClampNeg (0 : Int32)) (g (b + 2) (Int32.toNatClampNeg x2))) fun g5 => nt_gd (nt_in x2 9) <| nt_b1 (fSh_counts x3 (g5 (b + 2) (Int32.toNatClampNeg x2)) g5) fun r7 => nt_gd (nt_in (1 : Int32) 6) <| nt_lt (nt_st g5 8 (Int32.toNatClampNeg (1 : Int32)) r7) fun g9 => nt_gd (nt_in x2 9) <| nt_b1 (fJi_bitCount_0f7a4 (g9 (b + 4) (Int32.toNatClampNeg x2)) g9) fun r11 => nt_gd (nt_in (2 : Int32) 6) <| nt_lt (nt_st g9 8 (Int32.toNatClampNeg (2 : Int32)) r11) fun g13 => nt_gd (nt_in (3 : Int32) 6) <| nt_lt (nt_st g13 8 (Int32.toNatClampNeg (3 : Int32)) x4) fun g15 => nt_gd (nt_in (4 : Int32) 6) <| nt_lt (nt_st g15 8 (Int32.toNatClampNeg (4 : Int32)) (g15 b 8)) fun g17 => nt_gd (nt_in x2 9) <| nt_b1 (fJi_bitCount_0f7a4 (g17 (b + 3) (Int32.toNatClampNeg x2)) g17) fun r19 => nt_gd (nt_in (5 : Int32) 6) <| nt_lt (nt_st g17 8 (Int32.toNatClampNeg (5 : Int32)) r19) fun g21 => nt_b2 (fRu_value nr ln r1 x1 g21) fun r22 g23 => some (r22, g23)
set_option maxRecDepth 100000 in
set_option maxHeartbeats 4000000 in
theorem cPp_value {l : Launch} {w : nt_w} (hw : nt_isX w) {nr : Nat} {ln : Nat → Nat} {b : Nat}  (hR : nt_isR w nr ln) (hb : nt_isP b) {x1 : Int32} {x2 : Int32} {x3 : Int32} {x4 : Int32} {g : nt_T} {r : Int32} {g2 : nt_T} (hf : fPp_value nr ln b x1 x2 x3 x4 g = some (r, g2)) : nt_Mi l w yX0_value cX0_value 7 (some .int) 5 [.ref (nt_a w b), .int x1, .int x2, .int x3, .int x4] g r g2 := by
  refine nt_Mi_of (by decide) (Nat.le_of_ble_eq_true rfl) (fun p e s m args below meth c A X => ?_)
  have X : nt_X cX0_value 7 RX0 (some .int) w A p s m args meth c := X
  have h : nt_R (fPp_value nr ln b x1 x2 x3 x4 g) (fun z => z = (r, g2)) := ⟨_, hf, rfl⟩
  unfold fPp_value at h
  show nt_G p l e (nt_rm 5) s m args below meth c w A 0 0 (nt_Qi w A below args s r g2) 7 0 [(0, .ref (nt_a w b)), (1, .int x1), (2, .int x2), (3, .int x3), (4, .int x4)] [] g
  refine nt_aload_n X dX0_value_0 rfl 0 rfl ?_
  refine nt_get X b inX0 (nt_lP hw hb 0 (by decide)) (nt_eP hw hb) rfl (j := 1) (by decide) wd_251 (v := .ref (nt_a w 6)) rfl dX0_value_1 ?_
  refine nt_aload_n X dX0_value_4 rfl 0 rfl ?_
  refine nt_get X b inX0 (nt_lP hw hb 0 (by decide)) (nt_eP hw hb) rfl (j := 9) (by decide) wd_259 (v := .int (g b 9)) rfl dX0_value_5 ?_
  obtain ⟨r1, er1, h⟩ := nt_R_b1 h
  obtain ⟨q2, h⟩ := nt_R_gd h
  refine nt_cVNr X (As := [.int (g b 9)]) 6 (nt_lX hw (Nat.le_of_ble_eq_true rfl)) (nt_e6 hw) rfl (cTx_at hw hR er1) wd_435 nt_nm32 wd_434 wd_1045 wd_3 hd_X7_at ⟨Nat.le_of_ble_eq_true rfl, Nat.le_of_ble_eq_true rfl⟩ ⟨Nat.le_refl 0, Nat.le_refl 0⟩ (Nat.le_of_ble_eq_true rfl) rfl dX0_value_8 ?_
  refine nt_astore X [(5, .ref (nt_a w (47 + 2 * r1))), (0, .ref (nt_a w b)), (1, .int x1), (2, .int x2), (3, .int x3), (4, .int x4)] dX0_value_11 (by decide) rfl ?_
  refine nt_aload X dX0_value_13 0 rfl ?_
  refine nt_ifnonnull X 20 dX0_value_15 (by decide) ?_
  refine nt_aload_n X dX0_value_20 rfl 1 rfl ?_
  refine nt_get X b inX0 (nt_lP hw hb 0 (by decide)) (nt_eP hw hb) rfl (j := 1) (by decide) wd_251 (v := .ref (nt_a w 6)) rfl dX0_value_21 ?_
  refine nt_getN X 6 inX7 (nt_lX hw (Nat.le_of_ble_eq_true rfl)) (nt_e6 hw) rfl (j := 1) (by decide) nt_nf7 (v := .ref (nt_a w 8)) rfl dX0_value_24 ?_
  refine nt_astore X [(6, .ref (nt_a w 8)), (5, .ref (nt_a w (47 + 2 * r1))), (0, .ref (nt_a w b)), (1, .int x1), (2, .int x2), (3, .int x3), (4, .int x4)] dX0_value_27 (by decide) rfl ?_
  refine nt_aload X dX0_value_29 0 rfl ?_
  refine nt_iconst X dX0_value_31 nt_ci_0 ?_
  refine nt_aload_n X dX0_value_32 rfl 2 rfl ?_
  refine nt_get X b inX0 (nt_lP hw hb 0 (by decide)) (nt_eP hw hb) rfl (j := 3) (by decide) wd_253 (v := .ref (nt_a w (b + 2))) rfl dX0_value_33 ?_
  refine nt_iload_n X dX0_value_36 rfl 4 rfl ?_
  obtain ⟨q3, h⟩ := nt_R_gd h
  refine nt_iald X (b + 2) 0 (nt_lP hw hb 2 (by decide)) (nt_eP2 hw hb) (nt_tX hw) q3 dX0_value_37 ?_
  obtain ⟨q4, h⟩ := nt_R_gd h
  refine nt_iast X 8 0 (nt_lX hw (Nat.le_of_ble_eq_true rfl)) (nt_e8 hw) (nt_tX hw) q4 dX0_value_38 ?_
  obtain ⟨g5, eg5, h⟩ := nt_R_lt h
  refine nt_geq eg5 ?_
  refine nt_aload X dX0_value_39 0 rfl ?_
  refine nt_iconst X dX0_value_41 nt_ci_1 ?_
  refine nt_aload_n X dX0_value_42 rfl 2 rfl ?_
  refine nt_get X b inX0 (nt_lP hw hb 0 (by decide)) (nt_eP hw hb) rfl (j := 0) (by decide) wd_250 (v := .ref (nt_a w 1)) rfl dX0_value_43 ?_
  refine nt_iload_n X dX0_value_46 rfl 5 rfl ?_
  refine nt_aload_n X dX0_value_47 rfl 2 rfl ?_
  refine nt_get X b inX0 (nt_lP hw hb 0 (by decide)) (nt_eP hw hb) rfl (j := 3) (by decide) wd_253 (v := .ref (nt_a w (b + 2))) rfl dX0_value_48 ?_
  refine nt_iload_n X dX0_value_51 rfl 4 rfl ?_
  obtain ⟨q6, h⟩ := nt_R_gd h
  refine nt_iald X (b + 2) 0 (nt_lP hw hb 2 (by decide)) (nt_eP2 hw hb) (nt_tX hw) q6 dX0_value_52 ?_
  obtain ⟨r7, er7, h⟩ := nt_R_b1 h
  refine nt_cVNi X (As := [.int x3, .int (g5 (b + 2) (Int32.toNatClampNeg x2))]) 1 (nt_lX hw (Nat.le_of_ble_eq_true rfl)) (nt_e1 hw) rfl (cSh_counts hw er7) wd_388 nt_nm33 wd_387 wd_1034 wd_2 hd_X5_counts ⟨Nat.le_of_ble_eq_true rfl, Nat.le_of_ble_eq_true rfl⟩ ⟨Nat.le_refl 0, Nat.le_refl 0⟩ (Nat.le_of_ble_eq_true rfl) rfl dX0_value_53 ?_
  obtain ⟨q8, h⟩ := nt_R_gd h
  refine nt_iast X 8 0 (nt_lX hw (Nat.le_of_ble_eq_true rfl)) (nt_e8 hw) (nt_tX hw) q8 dX0_value_56 ?_
  obtain ⟨g9, eg9, h⟩ := nt_R_lt h
  refine nt_geq eg9 ?_
  refine nt_aload X dX0_value_57 0 rfl ?_
  refine nt_iconst X dX0_value_59 nt_ci_2 ?_
  refine nt_aload_n X dX0_value_60 rfl 2 rfl ?_
  refine nt_get X b inX0 (nt_lP hw hb 0 (by decide)) (nt_eP hw hb) rfl (j := 5) (by decide) wd_255 (v := .ref (nt_a w (b + 4))) rfl dX0_value_61 ?_
  refine nt_iload_n X dX0_value_64 rfl 4 rfl ?_
  obtain ⟨q10, h⟩ := nt_R_gd h
  refine nt_iald X (b + 4) 0 (nt_lP hw hb 4 (by decide)) (nt_eP4 hw hb) (nt_tX hw) q10 dX0_value_65 ?_
  obtain ⟨r11, er11, h⟩ := nt_R_b1 h
  refine nt_cSi X (As := [.int (g9 (b + 4) (Int32.toNatClampNeg x2))]) (cJi_bitCount_0f7a4 hw er11) wd_438 wd_436 wd_437 wd_17 hd_J6_bitCount_0f7a4 ⟨Nat.le_of_ble_eq_true rfl, Nat.le_of_ble_eq_true rfl⟩ ⟨Nat.le_refl 0, Nat.le_refl 0⟩ (Nat.le_of_ble_eq_true rfl) rfl dX0_value_66 ?_
  obtain ⟨q12, h⟩ := nt_R_gd h
  refine nt_iast X 8 0 (nt_lX hw (Nat.le_of_ble_eq_true rfl)) (nt_e8 hw) (nt_tX hw) q12 dX0_value_69 ?_
  obtain ⟨g13, eg13, h⟩ := nt_R_lt h
  refine nt_geq eg13 ?_
  refine nt_aload X dX0_value_70 0 rfl ?_
  refine nt_iconst X dX0_value_72 nt_ci_3 ?_
  refine nt_iload X dX0_value_73 6 rfl ?_
  obtain ⟨q14, h⟩ := nt_R_gd h
  refine nt_iast X 8 0 (nt_lX hw (Nat.le_of_ble_eq_true rfl)) (nt_e8 hw) (nt_tX hw) q14 dX0_value_75 ?_
  obtain ⟨g15, eg15, h⟩ := nt_R_lt h
  refine nt_geq eg15 ?_
  refine nt_aload X dX0_value_76 0 rfl ?_
  refine nt_iconst X dX0_value_78 nt_ci_4 ?_
  refine nt_aload_n X dX0_value_79 rfl 2 rfl ?_
  refine nt_get X b inX0 (nt_lP hw hb 0 (by decide)) (nt_eP hw hb) rfl (j := 8) (by decide) wd_258 (v := .int (g15 b 8)) rfl dX0_value_80 ?_
  obtain ⟨q16, h⟩ := nt_R_gd h
  refine nt_iast X 8 0 (nt_lX hw (Nat.le_of_ble_eq_true rfl)) (nt_e8 hw) (nt_tX hw) q16 dX0_value_83 ?_
  obtain ⟨g17, eg17, h⟩ := nt_R_lt h
  refine nt_geq eg17 ?_
  refine nt_aload X dX0_value_84 0 rfl ?_
  refine nt_iconst X dX0_value_86 nt_ci_5 ?_
  refine nt_aload_n X dX0_value_87 rfl 2 rfl ?_
  refine nt_get X b inX0 (nt_lP hw hb 0 (by decide)) (nt_eP hw hb) rfl (j := 4) (by decide) wd_254 (v := .ref (nt_a w (b + 3))) rfl dX0_value_88 ?_
  refine nt_iload_n X dX0_value_91 rfl 4 rfl ?_
  obtain ⟨q18, h⟩ := nt_R_gd h
  refine nt_iald X (b + 3) 0 (nt_lP hw hb 3 (by decide)) (nt_eP3 hw hb) (nt_tX hw) q18 dX0_value_92 ?_
  obtain ⟨r19, er19, h⟩ := nt_R_b1 h
  refine nt_cSi X (As := [.int (g17 (b + 3) (Int32.toNatClampNeg x2))]) (cJi_bitCount_0f7a4 hw er19) wd_438 wd_436 wd_437 wd_17 hd_J6_bitCount_0f7a4 ⟨Nat.le_of_ble_eq_true rfl, Nat.le_of_ble_eq_true rfl⟩ ⟨Nat.le_refl 0, Nat.le_refl 0⟩ (Nat.le_of_ble_eq_true rfl) rfl dX0_value_93 ?_
  obtain ⟨q20, h⟩ := nt_R_gd h
  refine nt_iast X 8 0 (nt_lX hw (Nat.le_of_ble_eq_true rfl)) (nt_e8 hw) (nt_tX hw) q20 dX0_value_96 ?_
  obtain ⟨g21, eg21, h⟩ := nt_R_lt h
  refine nt_geq eg21 ?_
  refine nt_aload X dX0_value_97 1 rfl ?_
  refine nt_iload_n X dX0_value_99 rfl 3 rfl ?_
  refine nt_aload X dX0_value_100 0 rfl ?_
  refine nt_aload_n X dX0_value_102 rfl 2 rfl ?_
  refine nt_get X b inX0 (nt_lP hw hb 0 (by decide)) (nt_eP hw hb) rfl (j := 1) (by decide) wd_251 (v := .ref (nt_a w 6)) rfl dX0_value_103 ?_
  refine nt_getN X 6 inX7 (nt_lX hw (Nat.le_of_ble_eq_true rfl)) (nt_e6 hw) rfl (j := 2) (by decide) nt_nf8 (v := .ref (nt_a w 9)) rfl dX0_value_106 ?_
  obtain ⟨r22, g23, er22, h⟩ := nt_R_b2 h
  refine nt_cVNi X (As := [.int x1, .ref (nt_a w 8), .ref (nt_a w 9)]) (47 + 2 * r1) (nt_lR hR (of_decide_eq_true q2)) (nt_eR hR (of_decide_eq_true q2)) rfl (cRu_value hw hR (of_decide_eq_true q2) er22) wd_443 nt_nm34 wd_442 wd_1046 wd_11 hd_X2_value ⟨Nat.le_of_ble_eq_true rfl, Nat.le_of_ble_eq_true rfl⟩ ⟨Nat.le_refl 0, Nat.le_refl 0⟩ (Nat.le_of_ble_eq_true rfl) rfl dX0_value_109 ?_
  have h := nt_R_some h
  exact nt_iret X dX0_value_112 h
def bPp_tellableOf_28 (nr : Nat) (ln : Nat → Nat) (b : Nat) (x1 : Int32) (x3 : Int32) (x4 : Int32) (g : nt_T) : Option ((Int32 × Int32 × nt_T) ⊕ ((Int32 × nt_T))) :=
  (if (g 1 4) ≤ x4 then
    (some (.inr (x3, g)))
  else
    ((if ((x3 >>> (x4 &&& 31)) &&& (1 : Int32)) = (1 : Int32) then
    (nt_b2 (fPp_value nr ln b (2 : Int32) x1 x4 (g b 10) g) fun r8 g9 => (if r8 = 0 then
    (nt_lt (x4 + (1 : Int32)) fun v11 => some (.inl (x3, v11, g9)))
  else
    (nt_lt (x3 &&& (((1 : Int32) <<< (x4 &&& 31)) ^^^ (-1 : Int32))) fun v12 => nt_lt (x4 + (1 : Int32)) fun v13 => some (.inl (v12, v13, g9)))))
  else
    (nt_lt (x4 + (1 : Int32)) fun v7 => some (.inl (x3, v7, g))))))
set_option maxRecDepth 100000 in
set_option maxHeartbeats 4000000 in
theorem tbPp_tellableOf_28 {p : Program} {l : Launch} {e : Env} {s : State} {m : MethodId} {args : Array Value} {below : List Frame} {meth : Method} {c : Code} {w : nt_w} {A : Nat → Prop} {nr : Nat} {ln : Nat → Nat} {b : Nat} (hw : nt_isX w)  (hR : nt_isR w nr ln) (hb : nt_isP b) {Q : State → Prop} (X : nt_X cX0_tellableOf 5 RX0 (some .int) w A p s m args meth c) (x1 : Int32)  {Qx : ((Int32 × nt_T)) → Prop} (hE0 : ∀ (y3 : Int32) (gy : nt_T), Qx (y3, gy) → nt_G p l e (nt_rm 7) s m args below meth c w A 0 0 Q 5 80 [(0, .ref (nt_a w b)), (1, .int x1), (3, .int y3)] [] gy) : ∀ (n : Nat) (x3 : Int32) (x4 : Int32) (g : nt_T), nt_R (nt_it (fun z => bPp_tellableOf_28 nr ln b x1 z.1 z.2.1 z.2.2) n (x3, x4, g)) Qx → nt_G p l e (nt_rm 7) s m args below meth c w A 0 0 Q 5 28 [(0, .ref (nt_a w b)), (1, .int x1), (3, .int x3), (4, .int x4)] [] g := by
  intro n
  induction n with
  | zero =>
    intro x3 x4 g h
    exact nt_R_none h
  | succ n ih =>
    intro x3 x4 g h
    have h : nt_R (bPp_tellableOf_28 nr ln b x1 x3 x4 g) (nt_Qz (fun z => bPp_tellableOf_28 nr ln b x1 z.1 z.2.1 z.2.2) n Qx) := nt_R_it h
    have hI : ∀ (y3 : Int32) (y4 : Int32) (gy : nt_T), nt_Qz (fun z => bPp_tellableOf_28 nr ln b x1 z.1 z.2.1 z.2.2) n Qx (.inl (y3, y4, gy)) → nt_G p l e (nt_rm 7) s m args below meth c w A 0 0 Q 5 28 [(0, .ref (nt_a w b)), (1, .int x1), (3, .int y3), (4, .int y4)] [] gy := fun y3 y4 gy q => ih y3 y4 gy q
    have hE0 : ∀ (y3 : Int32) (gy : nt_T), nt_Qz (fun z => bPp_tellableOf_28 nr ln b x1 z.1 z.2.1 z.2.2) n Qx (.inr (y3, gy)) → nt_G p l e (nt_rm 7) s m args below meth c w A 0 0 Q 5 80 [(0, .ref (nt_a w b)), (1, .int x1), (3, .int y3)] [] gy := hE0
    generalize nt_Qz (fun z => bPp_tellableOf_28 nr ln b x1 z.1 z.2.1 z.2.2) n Qx = Qz at h hI hE0
    unfold bPp_tellableOf_28 at h
    refine nt_iload X dX0_tellableOf_28 3 rfl ?_
    refine nt_aload_n X dX0_tellableOf_30 rfl 0 rfl ?_
    refine nt_get X b inX0 (nt_lP hw hb 0 (by decide)) (nt_eP hw hb) rfl (j := 0) (by decide) wd_250 (v := .ref (nt_a w 1)) rfl dX0_tellableOf_31 ?_
    refine nt_getN X 1 inX5 (nt_lX hw (Nat.le_of_ble_eq_true rfl)) (nt_e1 hw) rfl (j := 4) (by decide) nt_nf5 (v := .int (g 1 4)) rfl dX0_tellableOf_34 ?_
    obtain ⟨ht, hf⟩ := nt_R_if h
    refine nt_icmp_ge X 80 dX0_tellableOf_37 (by decide) (fun q5 => ?_) (fun q5 => ?_)
    · have h := ht q5
      refine nt_sub [0, 1, 2] rfl ?_
      have h := nt_R_some h
      exact hE0 x3 g h
    · have h := hf q5
      refine nt_iload_n X dX0_tellableOf_40 rfl 2 rfl ?_
      refine nt_iload X dX0_tellableOf_41 3 rfl ?_
      refine nt_ishr X dX0_tellableOf_43 ?_
      refine nt_iconst X dX0_tellableOf_44 nt_ci_1 ?_
      refine nt_iand X dX0_tellableOf_45 ?_
      refine nt_iconst X dX0_tellableOf_46 nt_ci_1 ?_
      obtain ⟨ht, hf⟩ := nt_R_if h
      refine nt_icmp_ne X 74 dX0_tellableOf_47 (by decide) (fun q6 => ?_) (fun q6 => ?_)
      · have h := hf q6
        obtain ⟨v7, ev7, h⟩ := nt_R_lt h
        refine nt_iinc X v7 [(4, .int v7), (0, .ref (nt_a w b)), (1, .int x1), (3, .int x3)] dX0_tellableOf_74 3 rfl (by rw [nt_ci_1]; exact ev7) (by decide) rfl ?_
        refine nt_goto X 28 dX0_tellableOf_77 (by decide) ?_
        refine nt_sub [1, 2, 3, 0] rfl ?_
        have h := nt_R_some h
        exact hI x3 v7 g h
      · have h := ht q6
        refine nt_aload_n X dX0_tellableOf_50 rfl 0 rfl ?_
        refine nt_iconst X dX0_tellableOf_51 nt_ci_2 ?_
        refine nt_iload_n X dX0_tellableOf_52 rfl 1 rfl ?_
        refine nt_iload X dX0_tellableOf_53 3 rfl ?_
        refine nt_aload_n X dX0_tellableOf_55 rfl 0 rfl ?_
        refine nt_get X b inX0 (nt_lP hw hb 0 (by decide)) (nt_eP hw hb) rfl (j := 10) (by decide) wd_260 (v := .int (g b 10)) rfl dX0_tellableOf_56 ?_
        obtain ⟨r8, g9, er8, h⟩ := nt_R_b2 h
        refine nt_cVi X (As := [.int (2 : Int32), .int x1, .int x4, .int (g b 10)]) b (nt_lP hw hb 0 (by decide)) (nt_eP hw hb) rfl (cPp_value hw hR hb er8) wd_433 wd_431 wd_432 wd_1044 wd_13 rfl hd_X0_value ⟨Nat.le_of_ble_eq_true rfl, Nat.le_of_ble_eq_true rfl⟩ ⟨Nat.le_refl 0, Nat.le_refl 0⟩ (Nat.le_of_ble_eq_true rfl) rfl dX0_tellableOf_59 ?_
        obtain ⟨ht, hf⟩ := nt_R_if h
        refine nt_if_eq X 74 dX0_tellableOf_62 (by decide) (fun q10 => ?_) (fun q10 => ?_)
        · have h := ht q10
          obtain ⟨v11, ev11, h⟩ := nt_R_lt h
          refine nt_iinc X v11 [(4, .int v11), (0, .ref (nt_a w b)), (1, .int x1), (3, .int x3)] dX0_tellableOf_74 3 rfl (by rw [nt_ci_1]; exact ev11) (by decide) rfl ?_
          refine nt_goto X 28 dX0_tellableOf_77 (by decide) ?_
          refine nt_sub [1, 2, 3, 0] rfl ?_
          have h := nt_R_some h
          exact hI x3 v11 g9 h
        · have h := hf q10
          refine nt_iload_n X dX0_tellableOf_65 rfl 2 rfl ?_
          refine nt_iconst X dX0_tellableOf_66 nt_ci_1 ?_
          refine nt_iload X dX0_tellableOf_67 3 rfl ?_
          refine nt_ishl X dX0_tellableOf_69 ?_
          refine nt_iconst X dX0_tellableOf_70 nt_ci_m1 ?_
          refine nt_ixor X dX0_tellableOf_71 ?_
          refine nt_iand X dX0_tellableOf_72 ?_
          obtain ⟨v12, ev12, h⟩ := nt_R_lt h
          refine nt_topi ev12 ?_
          refine nt_istore_n X [(3, .int v12), (0, .ref (nt_a w b)), (1, .int x1), (4, .int x4)] dX0_tellableOf_73 rfl (by decide) rfl ?_
          obtain ⟨v13, ev13, h⟩ := nt_R_lt h
          refine nt_iinc X v13 [(4, .int v13), (3, .int v12), (0, .ref (nt_a w b)), (1, .int x1)] dX0_tellableOf_74 3 rfl (by rw [nt_ci_1]; exact ev13) (by decide) rfl ?_
          refine nt_goto X 28 dX0_tellableOf_77 (by decide) ?_
          refine nt_sub [2, 3, 1, 0] rfl ?_
          have h := nt_R_some h
          exact hI v12 v13 g9 h
def fPp_tellableOf (nr : Nat) (ln : Nat → Nat) (b : Nat) (x1 : Int32) (x2 : Int32) (g : nt_T) : Option (Int32 × nt_T) :=
  (if (2 : Int32) ≤ (g b 10) then
    (nt_gd (nt_in x1 9) <| nt_b1 (fPp_newToOthers b x1 g) fun r3 => nt_lt ((x2 &&& (g (b + 3) (Int32.toNatClampNeg x1))) &&& r3) fun v4 => (nt_b1 (nt_it (fun z => bPp_tellableOf_28 nr ln b x1 z.1 z.2.1 z.2.2) nt_fu (v4, (0 : Int32), g)) fun z16 => match z16 with
  | (v14, g15) => some (v14, g15)))
  else
    (some ((0 : Int32), g)))
set_option maxRecDepth 100000 in
set_option maxHeartbeats 4000000 in
theorem cPp_tellableOf {l : Launch} {w : nt_w} (hw : nt_isX w) {nr : Nat} {ln : Nat → Nat} {b : Nat}  (hR : nt_isR w nr ln) (hb : nt_isP b) {x1 : Int32} {x2 : Int32} {g : nt_T} {r : Int32} {g2 : nt_T} (hf : fPp_tellableOf nr ln b x1 x2 g = some (r, g2)) : nt_Mi l w yX0_tellableOf cX0_tellableOf 5 (some .int) 7 [.ref (nt_a w b), .int x1, .int x2] g r g2 := by
  refine nt_Mi_of (by decide) (Nat.le_of_ble_eq_true rfl) (fun p e s m args below meth c A X => ?_)
  have X : nt_X cX0_tellableOf 5 RX0 (some .int) w A p s m args meth c := X
  have h : nt_R (fPp_tellableOf nr ln b x1 x2 g) (fun z => z = (r, g2)) := ⟨_, hf, rfl⟩
  unfold fPp_tellableOf at h
  show nt_G p l e (nt_rm 7) s m args below meth c w A 0 0 (nt_Qi w A below args s r g2) 5 0 [(0, .ref (nt_a w b)), (1, .int x1), (2, .int x2)] [] g
  refine nt_aload_n X dX0_tellableOf_0 rfl 0 rfl ?_
  refine nt_get X b inX0 (nt_lP hw hb 0 (by decide)) (nt_eP hw hb) rfl (j := 10) (by decide) wd_260 (v := .int (g b 10)) rfl dX0_tellableOf_1 ?_
  refine nt_iconst X dX0_tellableOf_4 nt_ci_2 ?_
  obtain ⟨ht, hf⟩ := nt_R_if h
  refine nt_icmp_ge X 10 dX0_tellableOf_5 (by decide) (fun q1 => ?_) (fun q1 => ?_)
  · have h := ht q1
    refine nt_iload_n X dX0_tellableOf_10 rfl 2 rfl ?_
    refine nt_aload_n X dX0_tellableOf_11 rfl 0 rfl ?_
    refine nt_get X b inX0 (nt_lP hw hb 0 (by decide)) (nt_eP hw hb) rfl (j := 4) (by decide) wd_254 (v := .ref (nt_a w (b + 3))) rfl dX0_tellableOf_12 ?_
    refine nt_iload_n X dX0_tellableOf_15 rfl 1 rfl ?_
    obtain ⟨q2, h⟩ := nt_R_gd h
    refine nt_iald X (b + 3) 0 (nt_lP hw hb 3 (by decide)) (nt_eP3 hw hb) (nt_tX hw) q2 dX0_tellableOf_16 ?_
    refine nt_iand X dX0_tellableOf_17 ?_
    refine nt_aload_n X dX0_tellableOf_18 rfl 0 rfl ?_
    refine nt_iload_n X dX0_tellableOf_19 rfl 1 rfl ?_
    obtain ⟨r3, er3, h⟩ := nt_R_b1 h
    refine nt_cVi X (As := [.int x1]) b (nt_lP hw hb 0 (by decide)) (nt_eP hw hb) rfl (cPp_newToOthers hw hb er3) wd_428 wd_426 wd_427 wd_1042 wd_13 rfl hd_X0_newToOthers ⟨Nat.le_of_ble_eq_true rfl, Nat.le_of_ble_eq_true rfl⟩ ⟨Nat.le_refl 0, Nat.le_refl 0⟩ (Nat.le_of_ble_eq_true rfl) rfl dX0_tellableOf_20 ?_
    refine nt_iand X dX0_tellableOf_23 ?_
    obtain ⟨v4, ev4, h⟩ := nt_R_lt h
    refine nt_topi ev4 ?_
    refine nt_istore_n X [(3, .int v4), (0, .ref (nt_a w b)), (1, .int x1), (2, .int x2)] dX0_tellableOf_24 rfl (by decide) rfl ?_
    refine nt_iconst X dX0_tellableOf_25 nt_ci_0 ?_
    refine nt_istore X [(4, .int (0 : Int32)), (3, .int v4), (0, .ref (nt_a w b)), (1, .int x1), (2, .int x2)] dX0_tellableOf_26 (by decide) rfl ?_
    obtain ⟨z16, hz16, h⟩ := nt_R_b1 h
    refine nt_sub [2, 3, 1, 0] rfl ?_
    refine tbPp_tellableOf_28 hw  hR hb X x1 (Qx := fun z => z = z16) (fun v14 g15 hq => ?_) nt_fu v4 (0 : Int32) g ⟨_, hz16, rfl⟩
    subst hq
    refine nt_iload_n X dX0_tellableOf_80 rfl 2 rfl ?_
    have h := nt_R_some h
    exact nt_iret X dX0_tellableOf_81 h
  · have h := hf q1
    refine nt_iconst X dX0_tellableOf_8 nt_ci_0 ?_
    have h := nt_R_some h
    exact nt_iret X dX0_tellableOf_9 h
def fPp_tellableBy (nr : Nat) (ln : Nat → Nat) (b : Nat) (x1 : Int32) (g : nt_T) : Option (Int32 × nt_T) :=
  nt_gd (nt_in x1 9) <| nt_b1 (fPp_lookInto b (g (b + 1) (Int32.toNatClampNeg x1)) g) fun g2 => nt_b1 (fSh_all g2) fun r3 => nt_b2 (fPp_tellableOf nr ln b x1 r3 g2) fun r4 g5 => some (r4, g5)
set_option maxRecDepth 100000 in
set_option maxHeartbeats 4000000 in
theorem cPp_tellableBy {l : Launch} {w : nt_w} (hw : nt_isX w) {nr : Nat} {ln : Nat → Nat} {b : Nat}  (hR : nt_isR w nr ln) (hb : nt_isP b) {x1 : Int32} {g : nt_T} {r : Int32} {g2 : nt_T} (hf : fPp_tellableBy nr ln b x1 g = some (r, g2)) : nt_Mi l w yX0_tellableBy cX0_tellableBy 2 (some .int) 9 [.ref (nt_a w b), .int x1] g r g2 := by
  refine nt_Mi_of (by decide) (Nat.le_of_ble_eq_true rfl) (fun p e s m args below meth c A X => ?_)
  have X : nt_X cX0_tellableBy 2 RX0 (some .int) w A p s m args meth c := X
  have h : nt_R (fPp_tellableBy nr ln b x1 g) (fun z => z = (r, g2)) := ⟨_, hf, rfl⟩
  unfold fPp_tellableBy at h
  show nt_G p l e (nt_rm 9) s m args below meth c w A 0 0 (nt_Qi w A below args s r g2) 2 0 [(0, .ref (nt_a w b)), (1, .int x1)] [] g
  refine nt_aload_n X dX0_tellableBy_0 rfl 0 rfl ?_
  refine nt_aload_n X dX0_tellableBy_1 rfl 0 rfl ?_
  refine nt_get X b inX0 (nt_lP hw hb 0 (by decide)) (nt_eP hw hb) rfl (j := 2) (by decide) wd_252 (v := .ref (nt_a w (b + 1))) rfl dX0_tellableBy_2 ?_
  refine nt_iload_n X dX0_tellableBy_5 rfl 1 rfl ?_
  obtain ⟨q1, h⟩ := nt_R_gd h
  refine nt_iald X (b + 1) 0 (nt_lP hw hb 1 (by decide)) (nt_eP1 hw hb) (nt_tX hw) q1 dX0_tellableBy_6 ?_
  obtain ⟨g2, eg2, h⟩ := nt_R_b1 h
  refine nt_cVv X (As := [.int (g (b + 1) (Int32.toNatClampNeg x1))]) b (nt_lP hw hb 0 (by decide)) (nt_eP hw hb) rfl (cPp_lookInto hw hb eg2) wd_421 wd_419 wd_420 wd_1040 wd_13 rfl hd_X0_lookInto ⟨Nat.le_of_ble_eq_true rfl, Nat.le_of_ble_eq_true rfl⟩ ⟨Nat.le_refl 0, Nat.le_refl 0⟩ (Nat.le_of_ble_eq_true rfl) rfl dX0_tellableBy_7 ?_
  refine nt_aload_n X dX0_tellableBy_10 rfl 0 rfl ?_
  refine nt_iload_n X dX0_tellableBy_11 rfl 1 rfl ?_
  refine nt_aload_n X dX0_tellableBy_12 rfl 0 rfl ?_
  refine nt_get X b inX0 (nt_lP hw hb 0 (by decide)) (nt_eP hw hb) rfl (j := 0) (by decide) wd_250 (v := .ref (nt_a w 1)) rfl dX0_tellableBy_13 ?_
  obtain ⟨r3, er3, h⟩ := nt_R_b1 h
  refine nt_cVNi X (As := []) 1 (nt_lX hw (Nat.le_of_ble_eq_true rfl)) (nt_e1 hw) rfl (cSh_all hw er3) wd_430 nt_nm31 wd_429 wd_1043 wd_2 hd_X5_all ⟨Nat.le_of_ble_eq_true rfl, Nat.le_of_ble_eq_true rfl⟩ ⟨Nat.le_refl 0, Nat.le_refl 0⟩ (Nat.le_of_ble_eq_true rfl) rfl dX0_tellableBy_16 ?_
  obtain ⟨r4, g5, er4, h⟩ := nt_R_b2 h
  refine nt_cVi X (As := [.int x1, .int r3]) b (nt_lP hw hb 0 (by decide)) (nt_eP hw hb) rfl (cPp_tellableOf hw hR hb er4) wd_425 wd_423 wd_424 wd_1041 wd_13 rfl hd_X0_tellableOf ⟨Nat.le_of_ble_eq_true rfl, Nat.le_of_ble_eq_true rfl⟩ ⟨Nat.le_refl 0, Nat.le_refl 0⟩ (Nat.le_of_ble_eq_true rfl) rfl dX0_tellableBy_19 ?_
  have h := nt_R_some h
  exact nt_iret X dX0_tellableBy_22 h
def bPp_tellableIn_9 (nr : Nat) (ln : Nat → Nat) (b : Nat) (x1 : Int32) (x2 : Int32) (x3 : Int32) (g : nt_T) : Option ((Int32 × Int32 × nt_T) ⊕ ((Int32 × nt_T))) :=
  (if (g b 7) ≤ x3 then
    (some (.inr (x2, g)))
  else
    (nt_gd (nt_in x3 9) <| (if (g (b + 1) (Int32.toNatClampNeg x3)) = x1 then
    (nt_b2 (fPp_tellableOf nr ln b x3 (x2 ^^^ (-1 : Int32)) g) fun r6 g7 => nt_lt (x2 ||| r6) fun v8 => nt_lt (x3 + (1 : Int32)) fun v9 => some (.inl (v8, v9, g7)))
  else
    (nt_lt (x3 + (1 : Int32)) fun v5 => some (.inl (x2, v5, g))))))
set_option maxRecDepth 100000 in
set_option maxHeartbeats 4000000 in
theorem tbPp_tellableIn_9 {p : Program} {l : Launch} {e : Env} {s : State} {m : MethodId} {args : Array Value} {below : List Frame} {meth : Method} {c : Code} {w : nt_w} {A : Nat → Prop} {nr : Nat} {ln : Nat → Nat} {b : Nat} (hw : nt_isX w)  (hR : nt_isR w nr ln) (hb : nt_isP b) {Q : State → Prop} (X : nt_X cX0_tellableIn 4 RX0 (some .int) w A p s m args meth c) (x1 : Int32)  {Qx : ((Int32 × nt_T)) → Prop} (hE0 : ∀ (y2 : Int32) (gy : nt_T), Qx (y2, gy) → nt_G p l e (nt_rm 9) s m args below meth c w A 0 0 Q 4 44 [(0, .ref (nt_a w b)), (1, .int x1), (2, .int y2)] [] gy) : ∀ (n : Nat) (x2 : Int32) (x3 : Int32) (g : nt_T), nt_R (nt_it (fun z => bPp_tellableIn_9 nr ln b x1 z.1 z.2.1 z.2.2) n (x2, x3, g)) Qx → nt_G p l e (nt_rm 9) s m args below meth c w A 0 0 Q 4 9 [(0, .ref (nt_a w b)), (1, .int x1), (2, .int x2), (3, .int x3)] [] g := by
  intro n
  induction n with
  | zero =>
    intro x2 x3 g h
    exact nt_R_none h
  | succ n ih =>
    intro x2 x3 g h
    have h : nt_R (bPp_tellableIn_9 nr ln b x1 x2 x3 g) (nt_Qz (fun z => bPp_tellableIn_9 nr ln b x1 z.1 z.2.1 z.2.2) n Qx) := nt_R_it h
    have hI : ∀ (y2 : Int32) (y3 : Int32) (gy : nt_T), nt_Qz (fun z => bPp_tellableIn_9 nr ln b x1 z.1 z.2.1 z.2.2) n Qx (.inl (y2, y3, gy)) → nt_G p l e (nt_rm 9) s m args below meth c w A 0 0 Q 4 9 [(0, .ref (nt_a w b)), (1, .int x1), (2, .int y2), (3, .int y3)] [] gy := fun y2 y3 gy q => ih y2 y3 gy q
    have hE0 : ∀ (y2 : Int32) (gy : nt_T), nt_Qz (fun z => bPp_tellableIn_9 nr ln b x1 z.1 z.2.1 z.2.2) n Qx (.inr (y2, gy)) → nt_G p l e (nt_rm 9) s m args below meth c w A 0 0 Q 4 44 [(0, .ref (nt_a w b)), (1, .int x1), (2, .int y2)] [] gy := hE0
    generalize nt_Qz (fun z => bPp_tellableIn_9 nr ln b x1 z.1 z.2.1 z.2.2) n Qx = Qz at h hI hE0
    unfold bPp_tellableIn_9 at h
    refine nt_iload_n X dX0_tellableIn_9 rfl 3 rfl ?_
    refine nt_aload_n X dX0_tellableIn_10 rfl 0 rfl ?_
    refine nt_get X b inX0 (nt_lP hw hb 0 (by decide)) (nt_eP hw hb) rfl (j := 7) (by decide) wd_257 (v := .int (g b 7)) rfl dX0_tellableIn_11 ?_
    obtain ⟨ht, hf⟩ := nt_R_if h
    refine nt_icmp_ge X 44 dX0_tellableIn_14 (by decide) (fun q2 => ?_) (fun q2 => ?_)
    · have h := ht q2
      refine nt_sub [0, 1, 2] rfl ?_
      have h := nt_R_some h
      exact hE0 x2 g h
    · have h := hf q2
      refine nt_aload_n X dX0_tellableIn_17 rfl 0 rfl ?_
      refine nt_get X b inX0 (nt_lP hw hb 0 (by decide)) (nt_eP hw hb) rfl (j := 2) (by decide) wd_252 (v := .ref (nt_a w (b + 1))) rfl dX0_tellableIn_18 ?_
      refine nt_iload_n X dX0_tellableIn_21 rfl 3 rfl ?_
      obtain ⟨q3, h⟩ := nt_R_gd h
      refine nt_iald X (b + 1) 0 (nt_lP hw hb 1 (by decide)) (nt_eP1 hw hb) (nt_tX hw) q3 dX0_tellableIn_22 ?_
      refine nt_iload_n X dX0_tellableIn_23 rfl 1 rfl ?_
      obtain ⟨ht, hf⟩ := nt_R_if h
      refine nt_icmp_ne X 38 dX0_tellableIn_24 (by decide) (fun q4 => ?_) (fun q4 => ?_)
      · have h := hf q4
        obtain ⟨v5, ev5, h⟩ := nt_R_lt h
        refine nt_iinc X v5 [(3, .int v5), (0, .ref (nt_a w b)), (1, .int x1), (2, .int x2)] dX0_tellableIn_38 3 rfl (by rw [nt_ci_1]; exact ev5) (by decide) rfl ?_
        refine nt_goto X 9 dX0_tellableIn_41 (by decide) ?_
        refine nt_sub [1, 2, 3, 0] rfl ?_
        have h := nt_R_some h
        exact hI x2 v5 g h
      · have h := ht q4
        refine nt_iload_n X dX0_tellableIn_27 rfl 2 rfl ?_
        refine nt_aload_n X dX0_tellableIn_28 rfl 0 rfl ?_
        refine nt_iload_n X dX0_tellableIn_29 rfl 3 rfl ?_
        refine nt_iload_n X dX0_tellableIn_30 rfl 2 rfl ?_
        refine nt_iconst X dX0_tellableIn_31 nt_ci_m1 ?_
        refine nt_ixor X dX0_tellableIn_32 ?_
        obtain ⟨r6, g7, er6, h⟩ := nt_R_b2 h
        refine nt_cVi X (As := [.int x3, .int (x2 ^^^ (-1 : Int32))]) b (nt_lP hw hb 0 (by decide)) (nt_eP hw hb) rfl (cPp_tellableOf hw hR hb er6) wd_425 wd_423 wd_424 wd_1041 wd_13 rfl hd_X0_tellableOf ⟨Nat.le_of_ble_eq_true rfl, Nat.le_of_ble_eq_true rfl⟩ ⟨Nat.le_refl 0, Nat.le_refl 0⟩ (Nat.le_of_ble_eq_true rfl) rfl dX0_tellableIn_33 ?_
        refine nt_ior X dX0_tellableIn_36 ?_
        obtain ⟨v8, ev8, h⟩ := nt_R_lt h
        refine nt_topi ev8 ?_
        refine nt_istore_n X [(2, .int v8), (0, .ref (nt_a w b)), (1, .int x1), (3, .int x3)] dX0_tellableIn_37 rfl (by decide) rfl ?_
        obtain ⟨v9, ev9, h⟩ := nt_R_lt h
        refine nt_iinc X v9 [(3, .int v9), (2, .int v8), (0, .ref (nt_a w b)), (1, .int x1)] dX0_tellableIn_38 3 rfl (by rw [nt_ci_1]; exact ev9) (by decide) rfl ?_
        refine nt_goto X 9 dX0_tellableIn_41 (by decide) ?_
        refine nt_sub [2, 3, 1, 0] rfl ?_
        have h := nt_R_some h
        exact hI v8 v9 g7 h
def fPp_tellableIn (nr : Nat) (ln : Nat → Nat) (b : Nat) (x1 : Int32) (g : nt_T) : Option (Int32 × nt_T) :=
  nt_b1 (fPp_lookInto b x1 g) fun g1 => (nt_b1 (nt_it (fun z => bPp_tellableIn_9 nr ln b x1 z.1 z.2.1 z.2.2) nt_fu ((0 : Int32), (0 : Int32), g1)) fun z12 => match z12 with
  | (v10, g11) => some (v10, g11))
set_option maxRecDepth 100000 in
set_option maxHeartbeats 4000000 in
theorem cPp_tellableIn {l : Launch} {w : nt_w} (hw : nt_isX w) {nr : Nat} {ln : Nat → Nat} {b : Nat}  (hR : nt_isR w nr ln) (hb : nt_isP b) {x1 : Int32} {g : nt_T} {r : Int32} {g2 : nt_T} (hf : fPp_tellableIn nr ln b x1 g = some (r, g2)) : nt_Mi l w yX0_tellableIn cX0_tellableIn 4 (some .int) 9 [.ref (nt_a w b), .int x1] g r g2 := by
  refine nt_Mi_of (by decide) (Nat.le_of_ble_eq_true rfl) (fun p e s m args below meth c A X => ?_)
  have X : nt_X cX0_tellableIn 4 RX0 (some .int) w A p s m args meth c := X
  have h : nt_R (fPp_tellableIn nr ln b x1 g) (fun z => z = (r, g2)) := ⟨_, hf, rfl⟩
  unfold fPp_tellableIn at h
  show nt_G p l e (nt_rm 9) s m args below meth c w A 0 0 (nt_Qi w A below args s r g2) 4 0 [(0, .ref (nt_a w b)), (1, .int x1)] [] g
  refine nt_aload_n X dX0_tellableIn_0 rfl 0 rfl ?_
  refine nt_iload_n X dX0_tellableIn_1 rfl 1 rfl ?_
  obtain ⟨g1, eg1, h⟩ := nt_R_b1 h
  refine nt_cVv X (As := [.int x1]) b (nt_lP hw hb 0 (by decide)) (nt_eP hw hb) rfl (cPp_lookInto hw hb eg1) wd_421 wd_419 wd_420 wd_1040 wd_13 rfl hd_X0_lookInto ⟨Nat.le_of_ble_eq_true rfl, Nat.le_of_ble_eq_true rfl⟩ ⟨Nat.le_refl 0, Nat.le_refl 0⟩ (Nat.le_of_ble_eq_true rfl) rfl dX0_tellableIn_2 ?_
  refine nt_iconst X dX0_tellableIn_5 nt_ci_0 ?_
  refine nt_istore_n X [(2, .int (0 : Int32)), (0, .ref (nt_a w b)), (1, .int x1)] dX0_tellableIn_6 rfl (by decide) rfl ?_
  refine nt_iconst X dX0_tellableIn_7 nt_ci_0 ?_
  refine nt_istore_n X [(3, .int (0 : Int32)), (2, .int (0 : Int32)), (0, .ref (nt_a w b)), (1, .int x1)] dX0_tellableIn_8 rfl (by decide) rfl ?_
  obtain ⟨z12, hz12, h⟩ := nt_R_b1 h
  refine nt_sub [2, 3, 1, 0] rfl ?_
  refine tbPp_tellableIn_9 hw  hR hb X x1 (Qx := fun z => z = z12) (fun v10 g11 hq => ?_) nt_fu (0 : Int32) (0 : Int32) g1 ⟨_, hz12, rfl⟩
  subst hq
  refine nt_iload_n X dX0_tellableIn_44 rfl 2 rfl ?_
  have h := nt_R_some h
  exact nt_iret X dX0_tellableIn_45 h
def bPp_unheardIn_9 (b : Nat) (x1 : Int32) (g : nt_T) (x2 : Int32) (x3 : Int32) : Option ((Int32 × Int32) ⊕ ((Int32))) :=
  (if (g b 7) ≤ x3 then
    (some (.inr x2))
  else
    (nt_gd (nt_in x3 9) <| (if (g (b + 1) (Int32.toNatClampNeg x3)) = x1 then
    (nt_gd (nt_in x3 9) <| nt_b1 (fPp_newToOthers b x3 g) fun r7 => nt_lt (x2 ||| ((g (b + 3) (Int32.toNatClampNeg x3)) &&& r7)) fun v8 => nt_lt (x3 + (1 : Int32)) fun v9 => some (.inl (v8, v9)))
  else
    (nt_lt (x3 + (1 : Int32)) fun v5 => some (.inl (x2, v5))))))
set_option maxRecDepth 100000 in
set_option maxHeartbeats 4000000 in
theorem tbPp_unheardIn_9 {p : Program} {l : Launch} {e : Env} {s : State} {m : MethodId} {args : Array Value} {below : List Frame} {meth : Method} {c : Code} {w : nt_w} {A : Nat → Prop} {b : Nat} (hw : nt_isX w) (hb : nt_isP b) {Q : State → Prop} (X : nt_X cX0_unheardIn 4 RX0 (some .int) w A p s m args meth c) (x1 : Int32) (g : nt_T)  {Qx : ((Int32)) → Prop} (hE0 : ∀ (y2 : Int32), Qx y2 → nt_G p l e (nt_rm 7) s m args below meth c w A 0 0 Q 4 48 [(0, .ref (nt_a w b)), (1, .int x1), (2, .int y2)] [] g) : ∀ (n : Nat) (x2 : Int32) (x3 : Int32), nt_R (nt_it (fun z => bPp_unheardIn_9 b x1 g z.1 z.2) n (x2, x3)) Qx → nt_G p l e (nt_rm 7) s m args below meth c w A 0 0 Q 4 9 [(0, .ref (nt_a w b)), (1, .int x1), (2, .int x2), (3, .int x3)] [] g := by
  intro n
  induction n with
  | zero =>
    intro x2 x3 h
    exact nt_R_none h
  | succ n ih =>
    intro x2 x3 h
    have h : nt_R (bPp_unheardIn_9 b x1 g x2 x3) (nt_Qz (fun z => bPp_unheardIn_9 b x1 g z.1 z.2) n Qx) := nt_R_it h
    have hI : ∀ (y2 : Int32) (y3 : Int32), nt_Qz (fun z => bPp_unheardIn_9 b x1 g z.1 z.2) n Qx (.inl (y2, y3)) → nt_G p l e (nt_rm 7) s m args below meth c w A 0 0 Q 4 9 [(0, .ref (nt_a w b)), (1, .int x1), (2, .int y2), (3, .int y3)] [] g := fun y2 y3 q => ih y2 y3 q
    have hE0 : ∀ (y2 : Int32), nt_Qz (fun z => bPp_unheardIn_9 b x1 g z.1 z.2) n Qx (.inr y2) → nt_G p l e (nt_rm 7) s m args below meth c w A 0 0 Q 4 48 [(0, .ref (nt_a w b)), (1, .int x1), (2, .int y2)] [] g := hE0
    generalize nt_Qz (fun z => bPp_unheardIn_9 b x1 g z.1 z.2) n Qx = Qz at h hI hE0
    unfold bPp_unheardIn_9 at h
    refine nt_iload_n X dX0_unheardIn_9 rfl 3 rfl ?_
    refine nt_aload_n X dX0_unheardIn_10 rfl 0 rfl ?_
    refine nt_get X b inX0 (nt_lP hw hb 0 (by decide)) (nt_eP hw hb) rfl (j := 7) (by decide) wd_257 (v := .int (g b 7)) rfl dX0_unheardIn_11 ?_
    obtain ⟨ht, hf⟩ := nt_R_if h
    refine nt_icmp_ge X 48 dX0_unheardIn_14 (by decide) (fun q2 => ?_) (fun q2 => ?_)
    · have h := ht q2
      refine nt_sub [0, 1, 2] rfl ?_
      have h := nt_R_some h
      exact hE0 x2 h
    · have h := hf q2
      refine nt_aload_n X dX0_unheardIn_17 rfl 0 rfl ?_
      refine nt_get X b inX0 (nt_lP hw hb 0 (by decide)) (nt_eP hw hb) rfl (j := 2) (by decide) wd_252 (v := .ref (nt_a w (b + 1))) rfl dX0_unheardIn_18 ?_
      refine nt_iload_n X dX0_unheardIn_21 rfl 3 rfl ?_
      obtain ⟨q3, h⟩ := nt_R_gd h
      refine nt_iald X (b + 1) 0 (nt_lP hw hb 1 (by decide)) (nt_eP1 hw hb) (nt_tX hw) q3 dX0_unheardIn_22 ?_
      refine nt_iload_n X dX0_unheardIn_23 rfl 1 rfl ?_
      obtain ⟨ht, hf⟩ := nt_R_if h
      refine nt_icmp_ne X 42 dX0_unheardIn_24 (by decide) (fun q4 => ?_) (fun q4 => ?_)
      · have h := hf q4
        obtain ⟨v5, ev5, h⟩ := nt_R_lt h
        refine nt_iinc X v5 [(3, .int v5), (0, .ref (nt_a w b)), (1, .int x1), (2, .int x2)] dX0_unheardIn_42 3 rfl (by rw [nt_ci_1]; exact ev5) (by decide) rfl ?_
        refine nt_goto X 9 dX0_unheardIn_45 (by decide) ?_
        refine nt_sub [1, 2, 3, 0] rfl ?_
        have h := nt_R_some h
        exact hI x2 v5 h
      · have h := ht q4
        refine nt_iload_n X dX0_unheardIn_27 rfl 2 rfl ?_
        refine nt_aload_n X dX0_unheardIn_28 rfl 0 rfl ?_
        refine nt_get X b inX0 (nt_lP hw hb 0 (by decide)) (nt_eP hw hb) rfl (j := 4) (by decide) wd_254 (v := .ref (nt_a w (b + 3))) rfl dX0_unheardIn_29 ?_
        refine nt_iload_n X dX0_unheardIn_32 rfl 3 rfl ?_
        obtain ⟨q6, h⟩ := nt_R_gd h
        refine nt_iald X (b + 3) 0 (nt_lP hw hb 3 (by decide)) (nt_eP3 hw hb) (nt_tX hw) q6 dX0_unheardIn_33 ?_
        refine nt_aload_n X dX0_unheardIn_34 rfl 0 rfl ?_
        refine nt_iload_n X dX0_unheardIn_35 rfl 3 rfl ?_
        obtain ⟨r7, er7, h⟩ := nt_R_b1 h
        refine nt_cVi X (As := [.int x3]) b (nt_lP hw hb 0 (by decide)) (nt_eP hw hb) rfl (cPp_newToOthers hw hb er7) wd_428 wd_426 wd_427 wd_1042 wd_13 rfl hd_X0_newToOthers ⟨Nat.le_of_ble_eq_true rfl, Nat.le_of_ble_eq_true rfl⟩ ⟨Nat.le_refl 0, Nat.le_refl 0⟩ (Nat.le_of_ble_eq_true rfl) rfl dX0_unheardIn_36 ?_
        refine nt_iand X dX0_unheardIn_39 ?_
        refine nt_ior X dX0_unheardIn_40 ?_
        obtain ⟨v8, ev8, h⟩ := nt_R_lt h
        refine nt_topi ev8 ?_
        refine nt_istore_n X [(2, .int v8), (0, .ref (nt_a w b)), (1, .int x1), (3, .int x3)] dX0_unheardIn_41 rfl (by decide) rfl ?_
        obtain ⟨v9, ev9, h⟩ := nt_R_lt h
        refine nt_iinc X v9 [(3, .int v9), (2, .int v8), (0, .ref (nt_a w b)), (1, .int x1)] dX0_unheardIn_42 3 rfl (by rw [nt_ci_1]; exact ev9) (by decide) rfl ?_
        refine nt_goto X 9 dX0_unheardIn_45 (by decide) ?_
        refine nt_sub [2, 3, 1, 0] rfl ?_
        have h := nt_R_some h
        exact hI v8 v9 h
def fPp_unheardIn (b : Nat) (x1 : Int32) (g : nt_T) : Option (Int32 × nt_T) :=
  nt_b1 (fPp_lookInto b x1 g) fun g1 => (nt_b1 (nt_it (fun z => bPp_unheardIn_9 b x1 g1 z.1 z.2) nt_fu ((0 : Int32), (0 : Int32))) fun v10 => some (v10, g1))
set_option maxRecDepth 100000 in
set_option maxHeartbeats 4000000 in
theorem cPp_unheardIn {l : Launch} {w : nt_w} (hw : nt_isX w) {b : Nat} (hb : nt_isP b) {x1 : Int32} {g : nt_T} {r : Int32} {g2 : nt_T} (hf : fPp_unheardIn b x1 g = some (r, g2)) : nt_Mi l w yX0_unheardIn cX0_unheardIn 4 (some .int) 7 [.ref (nt_a w b), .int x1] g r g2 := by
  refine nt_Mi_of (by decide) (Nat.le_of_ble_eq_true rfl) (fun p e s m args below meth c A X => ?_)
  have X : nt_X cX0_unheardIn 4 RX0 (some .int) w A p s m args meth c := X
  have h : nt_R (fPp_unheardIn b x1 g) (fun z => z = (r, g2)) := ⟨_, hf, rfl⟩
  unfold fPp_unheardIn at h
  show nt_G p l e (nt_rm 7) s m args below meth c w A 0 0 (nt_Qi w A below args s r g2) 4 0 [(0, .ref (nt_a w b)), (1, .int x1)] [] g
  refine nt_aload_n X dX0_unheardIn_0 rfl 0 rfl ?_
  refine nt_iload_n X dX0_unheardIn_1 rfl 1 rfl ?_
  obtain ⟨g1, eg1, h⟩ := nt_R_b1 h
  refine nt_cVv X (As := [.int x1]) b (nt_lP hw hb 0 (by decide)) (nt_eP hw hb) rfl (cPp_lookInto hw hb eg1) wd_421 wd_419 wd_420 wd_1040 wd_13 rfl hd_X0_lookInto ⟨Nat.le_of_ble_eq_true rfl, Nat.le_of_ble_eq_true rfl⟩ ⟨Nat.le_refl 0, Nat.le_refl 0⟩ (Nat.le_of_ble_eq_true rfl) rfl dX0_unheardIn_2 ?_
  refine nt_iconst X dX0_unheardIn_5 nt_ci_0 ?_
  refine nt_istore_n X [(2, .int (0 : Int32)), (0, .ref (nt_a w b)), (1, .int x1)] dX0_unheardIn_6 rfl (by decide) rfl ?_
  refine nt_iconst X dX0_unheardIn_7 nt_ci_0 ?_
  refine nt_istore_n X [(3, .int (0 : Int32)), (2, .int (0 : Int32)), (0, .ref (nt_a w b)), (1, .int x1)] dX0_unheardIn_8 rfl (by decide) rfl ?_
  obtain ⟨z11, hz11, h⟩ := nt_R_b1 h
  refine nt_sub [2, 3, 1, 0] rfl ?_
  refine tbPp_unheardIn_9 hw hb X x1 g1 (Qx := fun z => z = z11) (fun v10 hq => ?_) nt_fu (0 : Int32) (0 : Int32) ⟨_, hz11, rfl⟩
  subst hq
  refine nt_iload_n X dX0_unheardIn_48 rfl 2 rfl ?_
  have h := nt_R_some h
  exact nt_iret X dX0_unheardIn_49 h
def bPp_firstTeller_2 (nr : Nat) (ln : Nat → Nat) (b : Nat) (x1 : Int32) (x2 : Int32) (x3 : Int32) (g : nt_T) : Option ((Int32 × nt_T) ⊕ ((Int32 × nt_T) ⊕ (nt_T))) :=
  (if (g b 7) ≤ x3 then
    (some (.inr (.inr g)))
  else
    (nt_gd (nt_in x3 9) <| (if (g (b + 1) (Int32.toNatClampNeg x3)) = x1 then
    (nt_b2 (fPp_tellableOf nr ln b x3 ((1 : Int32) <<< (x2 &&& 31)) g) fun r5 g6 => (if r5 = 0 then
    (nt_lt (x3 + (1 : Int32)) fun v8 => some (.inl (v8, g6)))
  else
    (some (.inr (.inl (x3, g6))))))
  else
    (nt_lt (x3 + (1 : Int32)) fun v4 => some (.inl (v4, g))))))
set_option maxRecDepth 100000 in
set_option maxHeartbeats 4000000 in
theorem tbPp_firstTeller_2 {p : Program} {l : Launch} {e : Env} {s : State} {m : MethodId} {args : Array Value} {below : List Frame} {meth : Method} {c : Code} {w : nt_w} {A : Nat → Prop} {nr : Nat} {ln : Nat → Nat} {b : Nat} (hw : nt_isX w)  (hR : nt_isR w nr ln) (hb : nt_isP b) {Q : State → Prop} (X : nt_X cX0_firstTeller 4 RX0 (some .int) w A p s m args meth c) (x1 : Int32) (x2 : Int32)  {Qx : ((Int32 × nt_T) ⊕ (nt_T)) → Prop} (hE0 : ∀ (y3 : Int32) (gy : nt_T), Qx (.inl (y3, gy)) → nt_G p l e (nt_rm 9) s m args below meth c w A 0 0 Q 4 31 [(0, .ref (nt_a w b)), (1, .int x1), (2, .int x2), (3, .int y3)] [] gy) (hE1 : ∀ (gy : nt_T), Qx (.inr gy) → nt_G p l e (nt_rm 9) s m args below meth c w A 0 0 Q 4 39 [(0, .ref (nt_a w b)), (1, .int x1), (2, .int x2)] [] gy) : ∀ (n : Nat) (x3 : Int32) (g : nt_T), nt_R (nt_it (fun z => bPp_firstTeller_2 nr ln b x1 x2 z.1 z.2) n (x3, g)) Qx → nt_G p l e (nt_rm 9) s m args below meth c w A 0 0 Q 4 2 [(0, .ref (nt_a w b)), (1, .int x1), (2, .int x2), (3, .int x3)] [] g := by
  intro n
  induction n with
  | zero =>
    intro x3 g h
    exact nt_R_none h
  | succ n ih =>
    intro x3 g h
    have h : nt_R (bPp_firstTeller_2 nr ln b x1 x2 x3 g) (nt_Qz (fun z => bPp_firstTeller_2 nr ln b x1 x2 z.1 z.2) n Qx) := nt_R_it h
    have hI : ∀ (y3 : Int32) (gy : nt_T), nt_Qz (fun z => bPp_firstTeller_2 nr ln b x1 x2 z.1 z.2) n Qx (.inl (y3, gy)) → nt_G p l e (nt_rm 9) s m args below meth c w A 0 0 Q 4 2 [(0, .ref (nt_a w b)), (1, .int x1), (2, .int x2), (3, .int y3)] [] gy := fun y3 gy q => ih y3 gy q
    have hE0 : ∀ (y3 : Int32) (gy : nt_T), nt_Qz (fun z => bPp_firstTeller_2 nr ln b x1 x2 z.1 z.2) n Qx (.inr (.inl (y3, gy))) → nt_G p l e (nt_rm 9) s m args below meth c w A 0 0 Q 4 31 [(0, .ref (nt_a w b)), (1, .int x1), (2, .int x2), (3, .int y3)] [] gy := hE0
    have hE1 : ∀ (gy : nt_T), nt_Qz (fun z => bPp_firstTeller_2 nr ln b x1 x2 z.1 z.2) n Qx (.inr (.inr gy)) → nt_G p l e (nt_rm 9) s m args below meth c w A 0 0 Q 4 39 [(0, .ref (nt_a w b)), (1, .int x1), (2, .int x2)] [] gy := hE1
    generalize nt_Qz (fun z => bPp_firstTeller_2 nr ln b x1 x2 z.1 z.2) n Qx = Qz at h hI hE0 hE1
    unfold bPp_firstTeller_2 at h
    refine nt_iload_n X dX0_firstTeller_2 rfl 3 rfl ?_
    refine nt_aload_n X dX0_firstTeller_3 rfl 0 rfl ?_
    refine nt_get X b inX0 (nt_lP hw hb 0 (by decide)) (nt_eP hw hb) rfl (j := 7) (by decide) wd_257 (v := .int (g b 7)) rfl dX0_firstTeller_4 ?_
    obtain ⟨ht, hf⟩ := nt_R_if h
    refine nt_icmp_ge X 39 dX0_firstTeller_7 (by decide) (fun q1 => ?_) (fun q1 => ?_)
    · have h := ht q1
      refine nt_sub [0, 1, 2] rfl ?_
      have h := nt_R_some h
      exact hE1 g h
    · have h := hf q1
      refine nt_aload_n X dX0_firstTeller_10 rfl 0 rfl ?_
      refine nt_get X b inX0 (nt_lP hw hb 0 (by decide)) (nt_eP hw hb) rfl (j := 2) (by decide) wd_252 (v := .ref (nt_a w (b + 1))) rfl dX0_firstTeller_11 ?_
      refine nt_iload_n X dX0_firstTeller_14 rfl 3 rfl ?_
      obtain ⟨q2, h⟩ := nt_R_gd h
      refine nt_iald X (b + 1) 0 (nt_lP hw hb 1 (by decide)) (nt_eP1 hw hb) (nt_tX hw) q2 dX0_firstTeller_15 ?_
      refine nt_iload_n X dX0_firstTeller_16 rfl 1 rfl ?_
      obtain ⟨ht, hf⟩ := nt_R_if h
      refine nt_icmp_ne X 33 dX0_firstTeller_17 (by decide) (fun q3 => ?_) (fun q3 => ?_)
      · have h := hf q3
        obtain ⟨v4, ev4, h⟩ := nt_R_lt h
        refine nt_iinc X v4 [(3, .int v4), (0, .ref (nt_a w b)), (1, .int x1), (2, .int x2)] dX0_firstTeller_33 3 rfl (by rw [nt_ci_1]; exact ev4) (by decide) rfl ?_
        refine nt_goto X 2 dX0_firstTeller_36 (by decide) ?_
        refine nt_sub [1, 2, 3, 0] rfl ?_
        have h := nt_R_some h
        exact hI v4 g h
      · have h := ht q3
        refine nt_aload_n X dX0_firstTeller_20 rfl 0 rfl ?_
        refine nt_iload_n X dX0_firstTeller_21 rfl 3 rfl ?_
        refine nt_iconst X dX0_firstTeller_22 nt_ci_1 ?_
        refine nt_iload_n X dX0_firstTeller_23 rfl 2 rfl ?_
        refine nt_ishl X dX0_firstTeller_24 ?_
        obtain ⟨r5, g6, er5, h⟩ := nt_R_b2 h
        refine nt_cVi X (As := [.int x3, .int ((1 : Int32) <<< (x2 &&& 31))]) b (nt_lP hw hb 0 (by decide)) (nt_eP hw hb) rfl (cPp_tellableOf hw hR hb er5) wd_425 wd_423 wd_424 wd_1041 wd_13 rfl hd_X0_tellableOf ⟨Nat.le_of_ble_eq_true rfl, Nat.le_of_ble_eq_true rfl⟩ ⟨Nat.le_refl 0, Nat.le_refl 0⟩ (Nat.le_of_ble_eq_true rfl) rfl dX0_firstTeller_25 ?_
        obtain ⟨ht, hf⟩ := nt_R_if h
        refine nt_if_eq X 33 dX0_firstTeller_28 (by decide) (fun q7 => ?_) (fun q7 => ?_)
        · have h := ht q7
          obtain ⟨v8, ev8, h⟩ := nt_R_lt h
          refine nt_iinc X v8 [(3, .int v8), (0, .ref (nt_a w b)), (1, .int x1), (2, .int x2)] dX0_firstTeller_33 3 rfl (by rw [nt_ci_1]; exact ev8) (by decide) rfl ?_
          refine nt_goto X 2 dX0_firstTeller_36 (by decide) ?_
          refine nt_sub [1, 2, 3, 0] rfl ?_
          have h := nt_R_some h
          exact hI v8 g6 h
        · have h := hf q7
          refine nt_sub [0, 1, 2, 3] rfl ?_
          have h := nt_R_some h
          exact hE0 x3 g6 h
def fPp_firstTeller (nr : Nat) (ln : Nat → Nat) (b : Nat) (x1 : Int32) (x2 : Int32) (g : nt_T) : Option (Int32 × nt_T) :=
  (nt_b1 (nt_it (fun z => bPp_firstTeller_2 nr ln b x1 x2 z.1 z.2) nt_fu ((0 : Int32), g)) fun z12 => match z12 with
  | .inl (v9, g10) => some (v9, g10)
  | .inr (g11) => some ((-1 : Int32), g11))
set_option maxRecDepth 100000 in
set_option maxHeartbeats 4000000 in
theorem cPp_firstTeller {l : Launch} {w : nt_w} (hw : nt_isX w) {nr : Nat} {ln : Nat → Nat} {b : Nat}  (hR : nt_isR w nr ln) (hb : nt_isP b) {x1 : Int32} {x2 : Int32} {g : nt_T} {r : Int32} {g2 : nt_T} (hf : fPp_firstTeller nr ln b x1 x2 g = some (r, g2)) : nt_Mi l w yX0_firstTeller cX0_firstTeller 4 (some .int) 9 [.ref (nt_a w b), .int x1, .int x2] g r g2 := by
  refine nt_Mi_of (by decide) (Nat.le_of_ble_eq_true rfl) (fun p e s m args below meth c A X => ?_)
  have X : nt_X cX0_firstTeller 4 RX0 (some .int) w A p s m args meth c := X
  have h : nt_R (fPp_firstTeller nr ln b x1 x2 g) (fun z => z = (r, g2)) := ⟨_, hf, rfl⟩
  unfold fPp_firstTeller at h
  show nt_G p l e (nt_rm 9) s m args below meth c w A 0 0 (nt_Qi w A below args s r g2) 4 0 [(0, .ref (nt_a w b)), (1, .int x1), (2, .int x2)] [] g
  refine nt_iconst X dX0_firstTeller_0 nt_ci_0 ?_
  refine nt_istore_n X [(3, .int (0 : Int32)), (0, .ref (nt_a w b)), (1, .int x1), (2, .int x2)] dX0_firstTeller_1 rfl (by decide) rfl ?_
  obtain ⟨z12, hz12, h⟩ := nt_R_b1 h
  refine nt_sub [1, 2, 3, 0] rfl ?_
  refine tbPp_firstTeller_2 hw  hR hb X x1 x2 (Qx := fun z => z = z12) (fun v9 g10 hq => ?_) (fun g11 hq => ?_) nt_fu (0 : Int32) g ⟨_, hz12, rfl⟩
  · subst hq
    refine nt_iload_n X dX0_firstTeller_31 rfl 3 rfl ?_
    have h := nt_R_some h
    exact nt_iret X dX0_firstTeller_32 h
  · subst hq
    refine nt_iconst X dX0_firstTeller_39 nt_ci_m1 ?_
    have h := nt_R_some h
    exact nt_iret X dX0_firstTeller_40 h
def fPp_byWhom (nr : Nat) (ln : Nat → Nat) (b : Nat) (x1 : Int32) (x2 : Int32) (g : nt_T) : Option (Int32 × nt_T) :=
  nt_b1 (fPp_lookInto b x1 g) fun g1 => nt_b2 (fPp_firstTeller nr ln b x1 x2 g1) fun r2 g3 => some (r2, g3)
set_option maxRecDepth 100000 in
set_option maxHeartbeats 4000000 in
theorem cPp_byWhom {l : Launch} {w : nt_w} (hw : nt_isX w) {nr : Nat} {ln : Nat → Nat} {b : Nat}  (hR : nt_isR w nr ln) (hb : nt_isP b) {x1 : Int32} {x2 : Int32} {g : nt_T} {r : Int32} {g2 : nt_T} (hf : fPp_byWhom nr ln b x1 x2 g = some (r, g2)) : nt_Mi l w yX0_byWhom cX0_byWhom 3 (some .int) 11 [.ref (nt_a w b), .int x1, .int x2] g r g2 := by
  refine nt_Mi_of (by decide) (Nat.le_of_ble_eq_true rfl) (fun p e s m args below meth c A X => ?_)
  have X : nt_X cX0_byWhom 3 RX0 (some .int) w A p s m args meth c := X
  have h : nt_R (fPp_byWhom nr ln b x1 x2 g) (fun z => z = (r, g2)) := ⟨_, hf, rfl⟩
  unfold fPp_byWhom at h
  show nt_G p l e (nt_rm 11) s m args below meth c w A 0 0 (nt_Qi w A below args s r g2) 3 0 [(0, .ref (nt_a w b)), (1, .int x1), (2, .int x2)] [] g
  refine nt_aload_n X dX0_byWhom_0 rfl 0 rfl ?_
  refine nt_iload_n X dX0_byWhom_1 rfl 1 rfl ?_
  obtain ⟨g1, eg1, h⟩ := nt_R_b1 h
  refine nt_cVv X (As := [.int x1]) b (nt_lP hw hb 0 (by decide)) (nt_eP hw hb) rfl (cPp_lookInto hw hb eg1) wd_421 wd_419 wd_420 wd_1040 wd_13 rfl hd_X0_lookInto ⟨Nat.le_of_ble_eq_true rfl, Nat.le_of_ble_eq_true rfl⟩ ⟨Nat.le_refl 0, Nat.le_refl 0⟩ (Nat.le_of_ble_eq_true rfl) rfl dX0_byWhom_2 ?_
  refine nt_aload_n X dX0_byWhom_5 rfl 0 rfl ?_
  refine nt_iload_n X dX0_byWhom_6 rfl 1 rfl ?_
  refine nt_iload_n X dX0_byWhom_7 rfl 2 rfl ?_
  obtain ⟨r2, g3, er2, h⟩ := nt_R_b2 h
  refine nt_cVi X (As := [.int x1, .int x2]) b (nt_lP hw hb 0 (by decide)) (nt_eP hw hb) rfl (cPp_firstTeller hw hR hb er2) wd_455 wd_453 wd_454 wd_1048 wd_13 rfl hd_X0_firstTeller ⟨Nat.le_of_ble_eq_true rfl, Nat.le_of_ble_eq_true rfl⟩ ⟨Nat.le_refl 0, Nat.le_refl 0⟩ (Nat.le_of_ble_eq_true rfl) rfl dX0_byWhom_8 ?_
  have h := nt_R_some h
  exact nt_iret X dX0_byWhom_11 h
def fPp_bounded (x0 : Int32) (x1 : Int32) (g : nt_T) : Option (Int32) :=
  some (nt_max x1 (nt_min (99 : Int32) x0))
set_option maxRecDepth 100000 in
set_option maxHeartbeats 4000000 in
theorem cPp_bounded {l : Launch} {w : nt_w} (hw : nt_isX w) {x0 : Int32} {x1 : Int32} {g : nt_T} {r : Int32} (hf : fPp_bounded x0 x1 g = some r) : nt_Mi l w yX0_bounded cX0_bounded 2 (some .int) 3 [.int x0, .int x1] g r g := by
  refine nt_Mi_of (by decide) (Nat.le_of_ble_eq_true rfl) (fun p e s m args below meth c A X => ?_)
  have X : nt_X cX0_bounded 2 RX0 (some .int) w A p s m args meth c := X
  have hg : g = g := rfl
  have h : nt_R (fPp_bounded x0 x1 g) (fun z => z = r) := ⟨_, hf, rfl⟩
  unfold fPp_bounded at h
  show nt_G p l e (nt_rm 3) s m args below meth c w A 0 0 (nt_Qi w A below args s r g) 2 0 [(0, .int x0), (1, .int x1)] [] g
  refine nt_iload_n X dX0_bounded_0 rfl 1 rfl ?_
  refine nt_bipush X dX0_bounded_1 nt_cb_99 ?_
  refine nt_iload_n X dX0_bounded_3 rfl 0 rfl ?_
  refine nt_mmin X wd_469 wd_163 wd_9 wd_164 ⟨Nat.le_of_ble_eq_true rfl, Nat.le_of_ble_eq_true rfl⟩ ⟨Nat.le_refl 0, Nat.le_refl 0⟩ dX0_bounded_4 ?_
  refine nt_mmax X wd_470 wd_160 wd_9 wd_161 ⟨Nat.le_of_ble_eq_true rfl, Nat.le_of_ble_eq_true rfl⟩ ⟨Nat.le_refl 0, Nat.le_refl 0⟩ dX0_bounded_7 ?_
  have h := nt_R_some h
  exact nt_iret X dX0_bounded_10 (nt_pe h hg)
def bPp_worthBy_20 (nr : Nat) (ln : Nat → Nat) (b : Nat) (x1 : Int32) (x2 : Int32) (x3 : Int32) (x4 : Int32) (g : nt_T) : Option ((Int32 × Int32 × nt_T) ⊕ ((Int32 × nt_T))) :=
  (if (g b 7) ≤ x4 then
    (some (.inr (x3, g)))
  else
    ((if x4 = x1 then
    (nt_lt (x4 + (1 : Int32)) fun v6 => some (.inl (x3, v6, g)))
  else
    (nt_gd (nt_in x4 9) <| nt_gd (nt_in x1 9) <| (if (g (b + 1) (Int32.toNatClampNeg x4)) = (g (b + 1) (Int32.toNatClampNeg x1)) then
    (nt_b2 (fPp_value nr ln b (0 : Int32) x4 x2 (g b 10) g) fun r11 g12 => nt_b1 (fPp_bounded r11 (0 : Int32) g12) fun r13 => nt_lt (x3 + r13) fun v14 => nt_lt (x4 + (1 : Int32)) fun v15 => some (.inl (v14, v15, g12)))
  else
    (nt_lt (x4 + (1 : Int32)) fun v10 => some (.inl (x3, v10, g))))))))
set_option maxRecDepth 100000 in
set_option maxHeartbeats 4000000 in
theorem tbPp_worthBy_20 {p : Program} {l : Launch} {e : Env} {s : State} {m : MethodId} {args : Array Value} {below : List Frame} {meth : Method} {c : Code} {w : nt_w} {A : Nat → Prop} {nr : Nat} {ln : Nat → Nat} {b : Nat} (hw : nt_isX w)  (hR : nt_isR w nr ln) (hb : nt_isP b) {Q : State → Prop} (X : nt_X cX0_worthBy 5 RX0 (some .long) w A p s m args meth c) (x1 : Int32) (x2 : Int32)  {Qx : ((Int32 × nt_T)) → Prop} (hE0 : ∀ (y3 : Int32) (gy : nt_T), Qx (y3, gy) → nt_G p l e (nt_rm 7) s m args below meth c w A 0 0 Q 5 76 [(0, .ref (nt_a w b)), (1, .int x1), (2, .int x2), (3, .int y3)] [] gy) : ∀ (n : Nat) (x3 : Int32) (x4 : Int32) (g : nt_T), nt_R (nt_it (fun z => bPp_worthBy_20 nr ln b x1 x2 z.1 z.2.1 z.2.2) n (x3, x4, g)) Qx → nt_G p l e (nt_rm 7) s m args below meth c w A 0 0 Q 5 20 [(0, .ref (nt_a w b)), (1, .int x1), (2, .int x2), (3, .int x3), (4, .int x4)] [] g := by
  intro n
  induction n with
  | zero =>
    intro x3 x4 g h
    exact nt_R_none h
  | succ n ih =>
    intro x3 x4 g h
    have h : nt_R (bPp_worthBy_20 nr ln b x1 x2 x3 x4 g) (nt_Qz (fun z => bPp_worthBy_20 nr ln b x1 x2 z.1 z.2.1 z.2.2) n Qx) := nt_R_it h
    have hI : ∀ (y3 : Int32) (y4 : Int32) (gy : nt_T), nt_Qz (fun z => bPp_worthBy_20 nr ln b x1 x2 z.1 z.2.1 z.2.2) n Qx (.inl (y3, y4, gy)) → nt_G p l e (nt_rm 7) s m args below meth c w A 0 0 Q 5 20 [(0, .ref (nt_a w b)), (1, .int x1), (2, .int x2), (3, .int y3), (4, .int y4)] [] gy := fun y3 y4 gy q => ih y3 y4 gy q
    have hE0 : ∀ (y3 : Int32) (gy : nt_T), nt_Qz (fun z => bPp_worthBy_20 nr ln b x1 x2 z.1 z.2.1 z.2.2) n Qx (.inr (y3, gy)) → nt_G p l e (nt_rm 7) s m args below meth c w A 0 0 Q 5 76 [(0, .ref (nt_a w b)), (1, .int x1), (2, .int x2), (3, .int y3)] [] gy := hE0
    generalize nt_Qz (fun z => bPp_worthBy_20 nr ln b x1 x2 z.1 z.2.1 z.2.2) n Qx = Qz at h hI hE0
    unfold bPp_worthBy_20 at h
    refine nt_iload X dX0_worthBy_20 4 rfl ?_
    refine nt_aload_n X dX0_worthBy_22 rfl 0 rfl ?_
    refine nt_get X b inX0 (nt_lP hw hb 0 (by decide)) (nt_eP hw hb) rfl (j := 7) (by decide) wd_257 (v := .int (g b 7)) rfl dX0_worthBy_23 ?_
    obtain ⟨ht, hf⟩ := nt_R_if h
    refine nt_icmp_ge X 76 dX0_worthBy_26 (by decide) (fun q4 => ?_) (fun q4 => ?_)
    · have h := ht q4
      refine nt_sub [0, 1, 2, 3] rfl ?_
      have h := nt_R_some h
      exact hE0 x3 g h
    · have h := hf q4
      refine nt_iload X dX0_worthBy_29 4 rfl ?_
      refine nt_iload_n X dX0_worthBy_31 rfl 1 rfl ?_
      obtain ⟨ht, hf⟩ := nt_R_if h
      refine nt_icmp_eq X 70 dX0_worthBy_32 (by decide) (fun q5 => ?_) (fun q5 => ?_)
      · have h := ht q5
        obtain ⟨v6, ev6, h⟩ := nt_R_lt h
        refine nt_iinc X v6 [(4, .int v6), (0, .ref (nt_a w b)), (1, .int x1), (2, .int x2), (3, .int x3)] dX0_worthBy_70 4 rfl (by rw [nt_ci_1]; exact ev6) (by decide) rfl ?_
        refine nt_goto X 20 dX0_worthBy_73 (by decide) ?_
        refine nt_sub [1, 2, 3, 4, 0] rfl ?_
        have h := nt_R_some h
        exact hI x3 v6 g h
      · have h := hf q5
        refine nt_aload_n X dX0_worthBy_35 rfl 0 rfl ?_
        refine nt_get X b inX0 (nt_lP hw hb 0 (by decide)) (nt_eP hw hb) rfl (j := 2) (by decide) wd_252 (v := .ref (nt_a w (b + 1))) rfl dX0_worthBy_36 ?_
        refine nt_iload X dX0_worthBy_39 4 rfl ?_
        obtain ⟨q7, h⟩ := nt_R_gd h
        refine nt_iald X (b + 1) 0 (nt_lP hw hb 1 (by decide)) (nt_eP1 hw hb) (nt_tX hw) q7 dX0_worthBy_41 ?_
        refine nt_aload_n X dX0_worthBy_42 rfl 0 rfl ?_
        refine nt_get X b inX0 (nt_lP hw hb 0 (by decide)) (nt_eP hw hb) rfl (j := 2) (by decide) wd_252 (v := .ref (nt_a w (b + 1))) rfl dX0_worthBy_43 ?_
        refine nt_iload_n X dX0_worthBy_46 rfl 1 rfl ?_
        obtain ⟨q8, h⟩ := nt_R_gd h
        refine nt_iald X (b + 1) 0 (nt_lP hw hb 1 (by decide)) (nt_eP1 hw hb) (nt_tX hw) q8 dX0_worthBy_47 ?_
        obtain ⟨ht, hf⟩ := nt_R_if h
        refine nt_icmp_ne X 70 dX0_worthBy_48 (by decide) (fun q9 => ?_) (fun q9 => ?_)
        · have h := hf q9
          obtain ⟨v10, ev10, h⟩ := nt_R_lt h
          refine nt_iinc X v10 [(4, .int v10), (0, .ref (nt_a w b)), (1, .int x1), (2, .int x2), (3, .int x3)] dX0_worthBy_70 4 rfl (by rw [nt_ci_1]; exact ev10) (by decide) rfl ?_
          refine nt_goto X 20 dX0_worthBy_73 (by decide) ?_
          refine nt_sub [1, 2, 3, 4, 0] rfl ?_
          have h := nt_R_some h
          exact hI x3 v10 g h
        · have h := ht q9
          refine nt_iload_n X dX0_worthBy_51 rfl 3 rfl ?_
          refine nt_aload_n X dX0_worthBy_52 rfl 0 rfl ?_
          refine nt_iconst X dX0_worthBy_53 nt_ci_0 ?_
          refine nt_iload X dX0_worthBy_54 4 rfl ?_
          refine nt_iload_n X dX0_worthBy_56 rfl 2 rfl ?_
          refine nt_aload_n X dX0_worthBy_57 rfl 0 rfl ?_
          refine nt_get X b inX0 (nt_lP hw hb 0 (by decide)) (nt_eP hw hb) rfl (j := 10) (by decide) wd_260 (v := .int (g b 10)) rfl dX0_worthBy_58 ?_
          obtain ⟨r11, g12, er11, h⟩ := nt_R_b2 h
          refine nt_cVi X (As := [.int (0 : Int32), .int x4, .int x2, .int (g b 10)]) b (nt_lP hw hb 0 (by decide)) (nt_eP hw hb) rfl (cPp_value hw hR hb er11) wd_433 wd_431 wd_432 wd_1044 wd_13 rfl hd_X0_value ⟨Nat.le_of_ble_eq_true rfl, Nat.le_of_ble_eq_true rfl⟩ ⟨Nat.le_refl 0, Nat.le_refl 0⟩ (Nat.le_of_ble_eq_true rfl) rfl dX0_worthBy_61 ?_
          refine nt_iconst X dX0_worthBy_64 nt_ci_0 ?_
          obtain ⟨r13, er13, h⟩ := nt_R_b1 h
          refine nt_cSi X (As := [.int r11, .int (0 : Int32)]) (cPp_bounded hw er13) wd_468 wd_466 wd_467 wd_13 hd_X0_bounded ⟨Nat.le_of_ble_eq_true rfl, Nat.le_of_ble_eq_true rfl⟩ ⟨Nat.le_refl 0, Nat.le_refl 0⟩ (Nat.le_of_ble_eq_true rfl) rfl dX0_worthBy_65 ?_
          refine nt_iadd X dX0_worthBy_68 ?_
          obtain ⟨v14, ev14, h⟩ := nt_R_lt h
          refine nt_topi ev14 ?_
          refine nt_istore_n X [(3, .int v14), (0, .ref (nt_a w b)), (1, .int x1), (2, .int x2), (4, .int x4)] dX0_worthBy_69 rfl (by decide) rfl ?_
          obtain ⟨v15, ev15, h⟩ := nt_R_lt h
          refine nt_iinc X v15 [(4, .int v15), (3, .int v14), (0, .ref (nt_a w b)), (1, .int x1), (2, .int x2)] dX0_worthBy_70 4 rfl (by rw [nt_ci_1]; exact ev15) (by decide) rfl ?_
          refine nt_goto X 20 dX0_worthBy_73 (by decide) ?_
          refine nt_sub [2, 3, 4, 1, 0] rfl ?_
          have h := nt_R_some h
          exact hI v14 v15 g12 h
def fPp_worthBy (nr : Nat) (ln : Nat → Nat) (b : Nat) (x1 : Int32) (x2 : Int32) (g : nt_T) : Option (Int64 × nt_T) :=
  nt_b2 (fPp_value nr ln b (1 : Int32) x1 x2 (g b 10) g) fun r1 g2 => nt_b1 (fPp_bounded r1 (-99 : Int32) g2) fun r3 => (nt_b1 (nt_it (fun z => bPp_worthBy_20 nr ln b x1 x2 z.1 z.2.1 z.2.2) nt_fu (r3, (0 : Int32), g2)) fun z18 => match z18 with
  | (v16, g17) => some ((Int32.toInt64 v16), g17))
set_option maxRecDepth 100000 in
set_option maxHeartbeats 4000000 in
theorem cPp_worthBy {l : Launch} {w : nt_w} (hw : nt_isX w) {nr : Nat} {ln : Nat → Nat} {b : Nat}  (hR : nt_isR w nr ln) (hb : nt_isP b) {x1 : Int32} {x2 : Int32} {g : nt_T} {r : Int64} {g2 : nt_T} (hf : fPp_worthBy nr ln b x1 x2 g = some (r, g2)) : nt_Ml l w yX0_worthBy cX0_worthBy 5 (some .long) 7 [.ref (nt_a w b), .int x1, .int x2] g r g2 := by
  refine nt_Ml_of (by decide) (Nat.le_of_ble_eq_true rfl) (fun p e s m args below meth c A X => ?_)
  have X : nt_X cX0_worthBy 5 RX0 (some .long) w A p s m args meth c := X
  have h : nt_R (fPp_worthBy nr ln b x1 x2 g) (fun z => z = (r, g2)) := ⟨_, hf, rfl⟩
  unfold fPp_worthBy at h
  show nt_G p l e (nt_rm 7) s m args below meth c w A 0 0 (nt_Ql w A below args s r g2) 5 0 [(0, .ref (nt_a w b)), (1, .int x1), (2, .int x2)] [] g
  refine nt_aload_n X dX0_worthBy_0 rfl 0 rfl ?_
  refine nt_iconst X dX0_worthBy_1 nt_ci_1 ?_
  refine nt_iload_n X dX0_worthBy_2 rfl 1 rfl ?_
  refine nt_iload_n X dX0_worthBy_3 rfl 2 rfl ?_
  refine nt_aload_n X dX0_worthBy_4 rfl 0 rfl ?_
  refine nt_get X b inX0 (nt_lP hw hb 0 (by decide)) (nt_eP hw hb) rfl (j := 10) (by decide) wd_260 (v := .int (g b 10)) rfl dX0_worthBy_5 ?_
  obtain ⟨r1, g2, er1, h⟩ := nt_R_b2 h
  refine nt_cVi X (As := [.int (1 : Int32), .int x1, .int x2, .int (g b 10)]) b (nt_lP hw hb 0 (by decide)) (nt_eP hw hb) rfl (cPp_value hw hR hb er1) wd_433 wd_431 wd_432 wd_1044 wd_13 rfl hd_X0_value ⟨Nat.le_of_ble_eq_true rfl, Nat.le_of_ble_eq_true rfl⟩ ⟨Nat.le_refl 0, Nat.le_refl 0⟩ (Nat.le_of_ble_eq_true rfl) rfl dX0_worthBy_8 ?_
  refine nt_bipush X dX0_worthBy_11 nt_cb_m99 ?_
  obtain ⟨r3, er3, h⟩ := nt_R_b1 h
  refine nt_cSi X (As := [.int r1, .int (-99 : Int32)]) (cPp_bounded hw er3) wd_468 wd_466 wd_467 wd_13 hd_X0_bounded ⟨Nat.le_of_ble_eq_true rfl, Nat.le_of_ble_eq_true rfl⟩ ⟨Nat.le_refl 0, Nat.le_refl 0⟩ (Nat.le_of_ble_eq_true rfl) rfl dX0_worthBy_13 ?_
  refine nt_istore_n X [(3, .int r3), (0, .ref (nt_a w b)), (1, .int x1), (2, .int x2)] dX0_worthBy_16 rfl (by decide) rfl ?_
  refine nt_iconst X dX0_worthBy_17 nt_ci_0 ?_
  refine nt_istore X [(4, .int (0 : Int32)), (3, .int r3), (0, .ref (nt_a w b)), (1, .int x1), (2, .int x2)] dX0_worthBy_18 (by decide) rfl ?_
  obtain ⟨z18, hz18, h⟩ := nt_R_b1 h
  refine nt_sub [2, 3, 4, 1, 0] rfl ?_
  refine tbPp_worthBy_20 hw  hR hb X x1 x2 (Qx := fun z => z = z18) (fun v16 g17 hq => ?_) nt_fu r3 (0 : Int32) g2 ⟨_, hz18, rfl⟩
  subst hq
  refine nt_iload_n X dX0_worthBy_76 rfl 3 rfl ?_
  refine nt_i2l X dX0_worthBy_77 rfl ?_
  have h := nt_R_some h
  exact nt_lret X dX0_worthBy_78 h
def fPp_worthOf (nr : Nat) (ln : Nat → Nat) (b : Nat) (x1 : Int32) (x2 : Int32) (g : nt_T) : Option (Int64 × nt_T) :=
  nt_b1 (fPp_lookInto b x1 g) fun g1 => nt_b2 (fPp_firstTeller nr ln b x1 x2 g1) fun r2 g3 => (if r2 = (-1 : Int32) then
    (some ((-4611686018427387904 : Int64), g3))
  else
    (nt_b2 (fPp_worthBy nr ln b r2 x2 g3) fun r5 g6 => some (r5, g6)))
set_option maxRecDepth 100000 in
set_option maxHeartbeats 4000000 in
theorem cPp_worthOf {l : Launch} {w : nt_w} (hw : nt_isX w) {nr : Nat} {ln : Nat → Nat} {b : Nat}  (hR : nt_isR w nr ln) (hb : nt_isP b) {x1 : Int32} {x2 : Int32} {g : nt_T} {r : Int64} {g2 : nt_T} (hf : fPp_worthOf nr ln b x1 x2 g = some (r, g2)) : nt_Ml l w yX0_worthOf cX0_worthOf 4 (some .long) 11 [.ref (nt_a w b), .int x1, .int x2] g r g2 := by
  refine nt_Ml_of (by decide) (Nat.le_of_ble_eq_true rfl) (fun p e s m args below meth c A X => ?_)
  have X : nt_X cX0_worthOf 4 RX0 (some .long) w A p s m args meth c := X
  have h : nt_R (fPp_worthOf nr ln b x1 x2 g) (fun z => z = (r, g2)) := ⟨_, hf, rfl⟩
  unfold fPp_worthOf at h
  show nt_G p l e (nt_rm 11) s m args below meth c w A 0 0 (nt_Ql w A below args s r g2) 4 0 [(0, .ref (nt_a w b)), (1, .int x1), (2, .int x2)] [] g
  refine nt_aload_n X dX0_worthOf_0 rfl 0 rfl ?_
  refine nt_iload_n X dX0_worthOf_1 rfl 1 rfl ?_
  obtain ⟨g1, eg1, h⟩ := nt_R_b1 h
  refine nt_cVv X (As := [.int x1]) b (nt_lP hw hb 0 (by decide)) (nt_eP hw hb) rfl (cPp_lookInto hw hb eg1) wd_421 wd_419 wd_420 wd_1040 wd_13 rfl hd_X0_lookInto ⟨Nat.le_of_ble_eq_true rfl, Nat.le_of_ble_eq_true rfl⟩ ⟨Nat.le_refl 0, Nat.le_refl 0⟩ (Nat.le_of_ble_eq_true rfl) rfl dX0_worthOf_2 ?_
  refine nt_aload_n X dX0_worthOf_5 rfl 0 rfl ?_
  refine nt_iload_n X dX0_worthOf_6 rfl 1 rfl ?_
  refine nt_iload_n X dX0_worthOf_7 rfl 2 rfl ?_
  obtain ⟨r2, g3, er2, h⟩ := nt_R_b2 h
  refine nt_cVi X (As := [.int x1, .int x2]) b (nt_lP hw hb 0 (by decide)) (nt_eP hw hb) rfl (cPp_firstTeller hw hR hb er2) wd_455 wd_453 wd_454 wd_1048 wd_13 rfl hd_X0_firstTeller ⟨Nat.le_of_ble_eq_true rfl, Nat.le_of_ble_eq_true rfl⟩ ⟨Nat.le_refl 0, Nat.le_refl 0⟩ (Nat.le_of_ble_eq_true rfl) rfl dX0_worthOf_8 ?_
  refine nt_istore_n X [(3, .int r2), (0, .ref (nt_a w b)), (1, .int x1), (2, .int x2)] dX0_worthOf_11 rfl (by decide) rfl ?_
  refine nt_iload_n X dX0_worthOf_12 rfl 0 rfl ?_
  refine nt_iconst X dX0_worthOf_13 nt_ci_m1 ?_
  obtain ⟨ht, hf⟩ := nt_R_if h
  refine nt_icmp_ne X 23 dX0_worthOf_14 (by decide) (fun q4 => ?_) (fun q4 => ?_)
  · have h := hf q4
    refine nt_aload_n X dX0_worthOf_23 rfl 1 rfl ?_
    refine nt_iload_n X dX0_worthOf_24 rfl 0 rfl ?_
    refine nt_iload_n X dX0_worthOf_25 rfl 3 rfl ?_
    obtain ⟨r5, g6, er5, h⟩ := nt_R_b2 h
    refine nt_cVl X (As := [.int r2, .int x2]) b (nt_lP hw hb 0 (by decide)) (nt_eP hw hb) rfl (cPp_worthBy hw hR hb er5) wd_465 wd_463 wd_464 wd_1050 wd_13 rfl hd_X0_worthBy ⟨Nat.le_of_ble_eq_true rfl, Nat.le_of_ble_eq_true rfl⟩ ⟨Nat.le_refl 0, Nat.le_refl 0⟩ (Nat.le_of_ble_eq_true rfl) rfl dX0_worthOf_26 ?_
    have h := nt_R_some h
    exact nt_lret X dX0_worthOf_29 h
  · have h := ht q4
    refine nt_ldc2 X wd_462 dX0_worthOf_17 ?_
    refine nt_goto X 29 dX0_worthOf_20 (by decide) ?_
    have h := nt_R_some h
    exact nt_lret X dX0_worthOf_29 h
def jPp_bestOf_55 (nr : Nat) (ln : Nat → Nat) (b : Nat) (x1 : Int32) (x2 : Int32) (x3 : Int64) (x5 : Int32) (s0 : Int64) (g : nt_T) : Option ((Int32 × Int64 × Int32 × nt_T) ⊕ ((Int32 × nt_T))) :=
  (if (lg_cmp s0 x3) ≤ 0 then
    (nt_lt (x5 + (1 : Int32)) fun v9 => some (.inl (x2, x3, v9, g)))
  else
    (nt_lt (x5 + (1 : Int32)) fun v10 => some (.inl (x5, s0, v10, g))))
set_option maxRecDepth 100000 in
set_option maxHeartbeats 4000000 in
theorem tjPp_bestOf_55 {p : Program} {l : Launch} {e : Env} {s : State} {m : MethodId} {args : Array Value} {below : List Frame} {meth : Method} {c : Code} {w : nt_w} {A : Nat → Prop} {nr : Nat} {ln : Nat → Nat} {b : Nat} (hw : nt_isX w)  (hR : nt_isR w nr ln) (hb : nt_isP b) {Q : State → Prop} (X : nt_X cX0_bestOf 9 RX0 (some .int) w A p s m args meth c) (x1 : Int32) (x2 : Int32) (x3 : Int64) (x5 : Int32) (s0 : Int64) (g : nt_T) {Qz : (Int32 × Int64 × Int32 × nt_T) ⊕ ((Int32 × nt_T)) → Prop} (hI : ∀ (y2 : Int32) (y3 : Int64) (y5 : Int32) (gy : nt_T), Qz (.inl (y2, y3, y5, gy)) → nt_G p l e (nt_rm 11) s m args below meth c w A 0 0 Q 9 14 [(0, .ref (nt_a w b)), (1, .int x1), (2, .int y2), (3, .long y3), (5, .int y5)] [] gy) (hE0 : ∀ (y2 : Int32) (gy : nt_T), Qz (.inr (y2, gy)) → nt_G p l e (nt_rm 11) s m args below meth c w A 0 0 Q 9 76 [(0, .ref (nt_a w b)), (1, .int x1), (2, .int y2)] [] gy) (h : nt_R (jPp_bestOf_55 nr ln b x1 x2 x3 x5 s0 g) Qz) : nt_G p l e (nt_rm 11) s m args below meth c w A 0 0 Q 9 55 [(0, .ref (nt_a w b)), (1, .int x1), (2, .int x2), (3, .long x3), (5, .int x5)] [.long s0] g := by
  unfold jPp_bestOf_55 at h
  refine nt_lstore X [(7, .long s0), (0, .ref (nt_a w b)), (1, .int x1), (2, .int x2), (3, .long x3), (5, .int x5)] dX0_bestOf_55 (by decide) rfl ?_
  refine nt_lload X dX0_bestOf_57 0 rfl ?_
  refine nt_lload_n X dX0_bestOf_59 rfl 4 rfl ?_
  refine nt_lcmp X dX0_bestOf_60 ?_
  obtain ⟨ht, hf⟩ := nt_R_if h
  refine nt_if_le X 70 dX0_bestOf_61 (by decide) (fun q8 => ?_) (fun q8 => ?_)
  · have h := ht q8
    obtain ⟨v9, ev9, h⟩ := nt_R_lt h
    refine nt_iinc X v9 [(5, .int v9), (7, .long s0), (0, .ref (nt_a w b)), (1, .int x1), (2, .int x2), (3, .long x3)] dX0_bestOf_70 5 rfl (by rw [nt_ci_1]; exact ev9) (by decide) rfl ?_
    refine nt_goto X 14 dX0_bestOf_73 (by decide) ?_
    refine nt_sub [2, 3, 4, 5, 0] rfl ?_
    have h := nt_R_some h
    exact hI x2 x3 v9 g h
  · have h := hf q8
    refine nt_lload X dX0_bestOf_64 0 rfl ?_
    refine nt_lstore_n X [(3, .long s0), (7, .long s0), (0, .ref (nt_a w b)), (1, .int x1), (2, .int x2), (5, .int x5)] dX0_bestOf_66 rfl (by decide) rfl ?_
    refine nt_iload X dX0_bestOf_67 5 rfl ?_
    refine nt_istore_n X [(2, .int x5), (3, .long s0), (7, .long s0), (0, .ref (nt_a w b)), (1, .int x1), (5, .int x5)] dX0_bestOf_69 rfl (by decide) rfl ?_
    obtain ⟨v10, ev10, h⟩ := nt_R_lt h
    refine nt_iinc X v10 [(5, .int v10), (2, .int x5), (3, .long s0), (7, .long s0), (0, .ref (nt_a w b)), (1, .int x1)] dX0_bestOf_70 5 rfl (by rw [nt_ci_1]; exact ev10) (by decide) rfl ?_
    refine nt_goto X 14 dX0_bestOf_73 (by decide) ?_
    refine nt_sub [4, 5, 1, 2, 0] rfl ?_
    have h := nt_R_some h
    exact hI x5 s0 v10 g h
def bPp_bestOf_14 (nr : Nat) (ln : Nat → Nat) (b : Nat) (x1 : Int32) (x2 : Int32) (x3 : Int64) (x5 : Int32) (g : nt_T) : Option ((Int32 × Int64 × Int32 × nt_T) ⊕ ((Int32 × nt_T))) :=
  (if (g 1 4) ≤ x5 then
    (some (.inr (x2, g)))
  else
    (nt_b2 (fPp_firstTeller nr ln b x1 x5 g) fun r3 g4 => (if r3 = (-1 : Int32) then
    (jPp_bestOf_55 nr ln b x1 x2 x3 x5 (-4611686018427387904 : Int64) g4)
  else
    (nt_b2 (fPp_worthBy nr ln b r3 x5 g4) fun r6 g7 => jPp_bestOf_55 nr ln b x1 x2 x3 x5 r6 g7))))
set_option maxRecDepth 100000 in
set_option maxHeartbeats 4000000 in
theorem tbPp_bestOf_14 {p : Program} {l : Launch} {e : Env} {s : State} {m : MethodId} {args : Array Value} {below : List Frame} {meth : Method} {c : Code} {w : nt_w} {A : Nat → Prop} {nr : Nat} {ln : Nat → Nat} {b : Nat} (hw : nt_isX w)  (hR : nt_isR w nr ln) (hb : nt_isP b) {Q : State → Prop} (X : nt_X cX0_bestOf 9 RX0 (some .int) w A p s m args meth c) (x1 : Int32)  {Qx : ((Int32 × nt_T)) → Prop} (hE0 : ∀ (y2 : Int32) (gy : nt_T), Qx (y2, gy) → nt_G p l e (nt_rm 11) s m args below meth c w A 0 0 Q 9 76 [(0, .ref (nt_a w b)), (1, .int x1), (2, .int y2)] [] gy) : ∀ (n : Nat) (x2 : Int32) (x3 : Int64) (x5 : Int32) (g : nt_T), nt_R (nt_it (fun z => bPp_bestOf_14 nr ln b x1 z.1 z.2.1 z.2.2.1 z.2.2.2) n (x2, x3, x5, g)) Qx → nt_G p l e (nt_rm 11) s m args below meth c w A 0 0 Q 9 14 [(0, .ref (nt_a w b)), (1, .int x1), (2, .int x2), (3, .long x3), (5, .int x5)] [] g := by
  intro n
  induction n with
  | zero =>
    intro x2 x3 x5 g h
    exact nt_R_none h
  | succ n ih =>
    intro x2 x3 x5 g h
    have h : nt_R (bPp_bestOf_14 nr ln b x1 x2 x3 x5 g) (nt_Qz (fun z => bPp_bestOf_14 nr ln b x1 z.1 z.2.1 z.2.2.1 z.2.2.2) n Qx) := nt_R_it h
    have hI : ∀ (y2 : Int32) (y3 : Int64) (y5 : Int32) (gy : nt_T), nt_Qz (fun z => bPp_bestOf_14 nr ln b x1 z.1 z.2.1 z.2.2.1 z.2.2.2) n Qx (.inl (y2, y3, y5, gy)) → nt_G p l e (nt_rm 11) s m args below meth c w A 0 0 Q 9 14 [(0, .ref (nt_a w b)), (1, .int x1), (2, .int y2), (3, .long y3), (5, .int y5)] [] gy := fun y2 y3 y5 gy q => ih y2 y3 y5 gy q
    have hE0 : ∀ (y2 : Int32) (gy : nt_T), nt_Qz (fun z => bPp_bestOf_14 nr ln b x1 z.1 z.2.1 z.2.2.1 z.2.2.2) n Qx (.inr (y2, gy)) → nt_G p l e (nt_rm 11) s m args below meth c w A 0 0 Q 9 76 [(0, .ref (nt_a w b)), (1, .int x1), (2, .int y2)] [] gy := hE0
    generalize nt_Qz (fun z => bPp_bestOf_14 nr ln b x1 z.1 z.2.1 z.2.2.1 z.2.2.2) n Qx = Qz at h hI hE0
    unfold bPp_bestOf_14 at h
    refine nt_iload X dX0_bestOf_14 4 rfl ?_
    refine nt_aload_n X dX0_bestOf_16 rfl 0 rfl ?_
    refine nt_get X b inX0 (nt_lP hw hb 0 (by decide)) (nt_eP hw hb) rfl (j := 0) (by decide) wd_250 (v := .ref (nt_a w 1)) rfl dX0_bestOf_17 ?_
    refine nt_getN X 1 inX5 (nt_lX hw (Nat.le_of_ble_eq_true rfl)) (nt_e1 hw) rfl (j := 4) (by decide) nt_nf5 (v := .int (g 1 4)) rfl dX0_bestOf_20 ?_
    obtain ⟨ht, hf⟩ := nt_R_if h
    refine nt_icmp_ge X 76 dX0_bestOf_23 (by decide) (fun q2 => ?_) (fun q2 => ?_)
    · have h := ht q2
      refine nt_sub [0, 1, 2] rfl ?_
      have h := nt_R_some h
      exact hE0 x2 g h
    · have h := hf q2
      refine nt_aload_n X dX0_bestOf_26 rfl 0 rfl ?_
      refine nt_iload_n X dX0_bestOf_27 rfl 1 rfl ?_
      refine nt_iload X dX0_bestOf_28 4 rfl ?_
      obtain ⟨r3, g4, er3, h⟩ := nt_R_b2 h
      refine nt_cVi X (As := [.int x1, .int x5]) b (nt_lP hw hb 0 (by decide)) (nt_eP hw hb) rfl (cPp_firstTeller hw hR hb er3) wd_455 wd_453 wd_454 wd_1048 wd_13 rfl hd_X0_firstTeller ⟨Nat.le_of_ble_eq_true rfl, Nat.le_of_ble_eq_true rfl⟩ ⟨Nat.le_refl 0, Nat.le_refl 0⟩ (Nat.le_of_ble_eq_true rfl) rfl dX0_bestOf_30 ?_
      refine nt_istore X [(6, .int r3), (0, .ref (nt_a w b)), (1, .int x1), (2, .int x2), (3, .long x3), (5, .int x5)] dX0_bestOf_33 (by decide) rfl ?_
      refine nt_iload X dX0_bestOf_35 0 rfl ?_
      refine nt_iconst X dX0_bestOf_37 nt_ci_m1 ?_
      obtain ⟨ht, hf⟩ := nt_R_if h
      refine nt_icmp_ne X 47 dX0_bestOf_38 (by decide) (fun q5 => ?_) (fun q5 => ?_)
      · have h := hf q5
        refine nt_aload_n X dX0_bestOf_47 rfl 1 rfl ?_
        refine nt_iload X dX0_bestOf_48 0 rfl ?_
        refine nt_iload X dX0_bestOf_50 5 rfl ?_
        obtain ⟨r6, g7, er6, h⟩ := nt_R_b2 h
        refine nt_cVl X (As := [.int r3, .int x5]) b (nt_lP hw hb 0 (by decide)) (nt_eP hw hb) rfl (cPp_worthBy hw hR hb er6) wd_465 wd_463 wd_464 wd_1050 wd_13 rfl hd_X0_worthBy ⟨Nat.le_of_ble_eq_true rfl, Nat.le_of_ble_eq_true rfl⟩ ⟨Nat.le_refl 0, Nat.le_refl 0⟩ (Nat.le_of_ble_eq_true rfl) rfl dX0_bestOf_52 ?_
        refine nt_sub [1, 2, 3, 4, 5] rfl ?_
        exact tjPp_bestOf_55 hw  hR hb X x1 x2 x3 x5 r6 g7 hI hE0 h
      · have h := ht q5
        refine nt_ldc2 X wd_462 dX0_bestOf_41 ?_
        refine nt_goto X 55 dX0_bestOf_44 (by decide) ?_
        refine nt_sub [1, 2, 3, 4, 5] rfl ?_
        exact tjPp_bestOf_55 hw  hR hb X x1 x2 x3 x5 (-4611686018427387904 : Int64) g4 hI hE0 h
def fPp_bestOf (nr : Nat) (ln : Nat → Nat) (b : Nat) (x1 : Int32) (g : nt_T) : Option (Int32 × nt_T) :=
  nt_b1 (fPp_lookInto b x1 g) fun g1 => (nt_b1 (nt_it (fun z => bPp_bestOf_14 nr ln b x1 z.1 z.2.1 z.2.2.1 z.2.2.2) nt_fu ((-1 : Int32), (-4611686018427387904 : Int64), (0 : Int32), g1)) fun z13 => match z13 with
  | (v11, g12) => some (v11, g12))
set_option maxRecDepth 100000 in
set_option maxHeartbeats 4000000 in
theorem cPp_bestOf {l : Launch} {w : nt_w} (hw : nt_isX w) {nr : Nat} {ln : Nat → Nat} {b : Nat}  (hR : nt_isR w nr ln) (hb : nt_isP b) {x1 : Int32} {g : nt_T} {r : Int32} {g2 : nt_T} (hf : fPp_bestOf nr ln b x1 g = some (r, g2)) : nt_Mi l w yX0_bestOf cX0_bestOf 9 (some .int) 11 [.ref (nt_a w b), .int x1] g r g2 := by
  refine nt_Mi_of (by decide) (Nat.le_of_ble_eq_true rfl) (fun p e s m args below meth c A X => ?_)
  have X : nt_X cX0_bestOf 9 RX0 (some .int) w A p s m args meth c := X
  have h : nt_R (fPp_bestOf nr ln b x1 g) (fun z => z = (r, g2)) := ⟨_, hf, rfl⟩
  unfold fPp_bestOf at h
  show nt_G p l e (nt_rm 11) s m args below meth c w A 0 0 (nt_Qi w A below args s r g2) 9 0 [(0, .ref (nt_a w b)), (1, .int x1)] [] g
  refine nt_aload_n X dX0_bestOf_0 rfl 0 rfl ?_
  refine nt_iload_n X dX0_bestOf_1 rfl 1 rfl ?_
  obtain ⟨g1, eg1, h⟩ := nt_R_b1 h
  refine nt_cVv X (As := [.int x1]) b (nt_lP hw hb 0 (by decide)) (nt_eP hw hb) rfl (cPp_lookInto hw hb eg1) wd_421 wd_419 wd_420 wd_1040 wd_13 rfl hd_X0_lookInto ⟨Nat.le_of_ble_eq_true rfl, Nat.le_of_ble_eq_true rfl⟩ ⟨Nat.le_refl 0, Nat.le_refl 0⟩ (Nat.le_of_ble_eq_true rfl) rfl dX0_bestOf_2 ?_
  refine nt_iconst X dX0_bestOf_5 nt_ci_m1 ?_
  refine nt_istore_n X [(2, .int (-1 : Int32)), (0, .ref (nt_a w b)), (1, .int x1)] dX0_bestOf_6 rfl (by decide) rfl ?_
  refine nt_ldc2 X wd_462 dX0_bestOf_7 ?_
  refine nt_lstore_n X [(3, .long (-4611686018427387904 : Int64)), (2, .int (-1 : Int32)), (0, .ref (nt_a w b)), (1, .int x1)] dX0_bestOf_10 rfl (by decide) rfl ?_
  refine nt_iconst X dX0_bestOf_11 nt_ci_0 ?_
  refine nt_istore X [(5, .int (0 : Int32)), (3, .long (-4611686018427387904 : Int64)), (2, .int (-1 : Int32)), (0, .ref (nt_a w b)), (1, .int x1)] dX0_bestOf_12 (by decide) rfl ?_
  obtain ⟨z13, hz13, h⟩ := nt_R_b1 h
  refine nt_sub [3, 4, 2, 1, 0] rfl ?_
  refine tbPp_bestOf_14 hw  hR hb X x1 (Qx := fun z => z = z13) (fun v11 g12 hq => ?_) nt_fu (-1 : Int32) (-4611686018427387904 : Int64) (0 : Int32) g1 ⟨_, hz13, rfl⟩
  subst hq
  refine nt_iload_n X dX0_bestOf_76 rfl 2 rfl ?_
  have h := nt_R_some h
  exact nt_iret X dX0_bestOf_77 h
def bPp_spend_23 (nr : Nat) (ln : Nat → Nat) (b : Nat) (x1 : Int32) (x2 : Int32) (x3 : Int32) (x4 : Int32) (g : nt_T) : Option ((Int32 × nt_T) ⊕ ((nt_T))) :=
  (if (g b 7) ≤ x4 then
    (some (.inr g))
  else
    ((if x4 = x3 then
    (nt_lt (x4 + (1 : Int32)) fun v7 => some (.inl (v7, g)))
  else
    (nt_gd (nt_in x4 9) <| (if (g (b + 1) (Int32.toNatClampNeg x4)) = x1 then
    (nt_b1 (fPp_hear b x4 x2 g) fun g11 => nt_lt (x4 + (1 : Int32)) fun v12 => some (.inl (v12, g11)))
  else
    (nt_lt (x4 + (1 : Int32)) fun v10 => some (.inl (v10, g))))))))
set_option maxRecDepth 100000 in
set_option maxHeartbeats 4000000 in
theorem tbPp_spend_23 {p : Program} {l : Launch} {e : Env} {s : State} {m : MethodId} {args : Array Value} {below : List Frame} {meth : Method} {c : Code} {w : nt_w} {A : Nat → Prop} {nr : Nat} {ln : Nat → Nat} {b : Nat} (hw : nt_isX w)  (hR : nt_isR w nr ln) (hb : nt_isP b) {Q : State → Prop} (X : nt_X cX0_spend 5 RX0 (some .int) w A p s m args meth c) (x1 : Int32) (x2 : Int32) (x3 : Int32)  {Qx : ((nt_T)) → Prop} (hE0 : ∀ (gy : nt_T), Qx gy → nt_G p l e (nt_rm 11) s m args below meth c w A 0 0 Q 5 62 [(0, .ref (nt_a w b)), (1, .int x1), (2, .int x2), (3, .int x3)] [] gy) : ∀ (n : Nat) (x4 : Int32) (g : nt_T), nt_R (nt_it (fun z => bPp_spend_23 nr ln b x1 x2 x3 z.1 z.2) n (x4, g)) Qx → nt_G p l e (nt_rm 11) s m args below meth c w A 0 0 Q 5 23 [(0, .ref (nt_a w b)), (1, .int x1), (2, .int x2), (3, .int x3), (4, .int x4)] [] g := by
  intro n
  induction n with
  | zero =>
    intro x4 g h
    exact nt_R_none h
  | succ n ih =>
    intro x4 g h
    have h : nt_R (bPp_spend_23 nr ln b x1 x2 x3 x4 g) (nt_Qz (fun z => bPp_spend_23 nr ln b x1 x2 x3 z.1 z.2) n Qx) := nt_R_it h
    have hI : ∀ (y4 : Int32) (gy : nt_T), nt_Qz (fun z => bPp_spend_23 nr ln b x1 x2 x3 z.1 z.2) n Qx (.inl (y4, gy)) → nt_G p l e (nt_rm 11) s m args below meth c w A 0 0 Q 5 23 [(0, .ref (nt_a w b)), (1, .int x1), (2, .int x2), (3, .int x3), (4, .int y4)] [] gy := fun y4 gy q => ih y4 gy q
    have hE0 : ∀ (gy : nt_T), nt_Qz (fun z => bPp_spend_23 nr ln b x1 x2 x3 z.1 z.2) n Qx (.inr gy) → nt_G p l e (nt_rm 11) s m args below meth c w A 0 0 Q 5 62 [(0, .ref (nt_a w b)), (1, .int x1), (2, .int x2), (3, .int x3)] [] gy := hE0
    generalize nt_Qz (fun z => bPp_spend_23 nr ln b x1 x2 x3 z.1 z.2) n Qx = Qz at h hI hE0
    unfold bPp_spend_23 at h
    refine nt_iload X dX0_spend_23 4 rfl ?_
    refine nt_aload_n X dX0_spend_25 rfl 0 rfl ?_
    refine nt_get X b inX0 (nt_lP hw hb 0 (by decide)) (nt_eP hw hb) rfl (j := 7) (by decide) wd_257 (v := .int (g b 7)) rfl dX0_spend_26 ?_
    obtain ⟨ht, hf⟩ := nt_R_if h
    refine nt_icmp_ge X 62 dX0_spend_29 (by decide) (fun q5 => ?_) (fun q5 => ?_)
    · have h := ht q5
      refine nt_sub [0, 1, 2, 3] rfl ?_
      have h := nt_R_some h
      exact hE0 g h
    · have h := hf q5
      refine nt_iload X dX0_spend_32 4 rfl ?_
      refine nt_iload_n X dX0_spend_34 rfl 3 rfl ?_
      obtain ⟨ht, hf⟩ := nt_R_if h
      refine nt_icmp_eq X 56 dX0_spend_35 (by decide) (fun q6 => ?_) (fun q6 => ?_)
      · have h := ht q6
        obtain ⟨v7, ev7, h⟩ := nt_R_lt h
        refine nt_iinc X v7 [(4, .int v7), (0, .ref (nt_a w b)), (1, .int x1), (2, .int x2), (3, .int x3)] dX0_spend_56 4 rfl (by rw [nt_ci_1]; exact ev7) (by decide) rfl ?_
        refine nt_goto X 23 dX0_spend_59 (by decide) ?_
        refine nt_sub [1, 2, 3, 4, 0] rfl ?_
        have h := nt_R_some h
        exact hI v7 g h
      · have h := hf q6
        refine nt_aload_n X dX0_spend_38 rfl 0 rfl ?_
        refine nt_get X b inX0 (nt_lP hw hb 0 (by decide)) (nt_eP hw hb) rfl (j := 2) (by decide) wd_252 (v := .ref (nt_a w (b + 1))) rfl dX0_spend_39 ?_
        refine nt_iload X dX0_spend_42 4 rfl ?_
        obtain ⟨q8, h⟩ := nt_R_gd h
        refine nt_iald X (b + 1) 0 (nt_lP hw hb 1 (by decide)) (nt_eP1 hw hb) (nt_tX hw) q8 dX0_spend_44 ?_
        refine nt_iload_n X dX0_spend_45 rfl 1 rfl ?_
        obtain ⟨ht, hf⟩ := nt_R_if h
        refine nt_icmp_ne X 56 dX0_spend_46 (by decide) (fun q9 => ?_) (fun q9 => ?_)
        · have h := hf q9
          obtain ⟨v10, ev10, h⟩ := nt_R_lt h
          refine nt_iinc X v10 [(4, .int v10), (0, .ref (nt_a w b)), (1, .int x1), (2, .int x2), (3, .int x3)] dX0_spend_56 4 rfl (by rw [nt_ci_1]; exact ev10) (by decide) rfl ?_
          refine nt_goto X 23 dX0_spend_59 (by decide) ?_
          refine nt_sub [1, 2, 3, 4, 0] rfl ?_
          have h := nt_R_some h
          exact hI v10 g h
        · have h := ht q9
          refine nt_aload_n X dX0_spend_49 rfl 0 rfl ?_
          refine nt_iload X dX0_spend_50 4 rfl ?_
          refine nt_iload_n X dX0_spend_52 rfl 2 rfl ?_
          obtain ⟨g11, eg11, h⟩ := nt_R_b1 h
          refine nt_cVv X (As := [.int x4, .int x2]) b (nt_lP hw hb 0 (by decide)) (nt_eP hw hb) rfl (cPp_hear hw hb eg11) wd_377 wd_484 wd_376 wd_1031 wd_13 rfl hd_X0_hear ⟨Nat.le_of_ble_eq_true rfl, Nat.le_of_ble_eq_true rfl⟩ ⟨Nat.le_refl 0, Nat.le_refl 0⟩ (Nat.le_of_ble_eq_true rfl) rfl dX0_spend_53 ?_
          obtain ⟨v12, ev12, h⟩ := nt_R_lt h
          refine nt_iinc X v12 [(4, .int v12), (0, .ref (nt_a w b)), (1, .int x1), (2, .int x2), (3, .int x3)] dX0_spend_56 4 rfl (by rw [nt_ci_1]; exact ev12) (by decide) rfl ?_
          refine nt_goto X 23 dX0_spend_59 (by decide) ?_
          refine nt_sub [1, 2, 3, 4, 0] rfl ?_
          have h := nt_R_some h
          exact hI v12 g11 h
def fPp_spend (nr : Nat) (ln : Nat → Nat) (b : Nat) (x1 : Int32) (x2 : Int32) (g : nt_T) : Option (Int32 × nt_T) :=
  nt_b1 (fPp_lookInto b x1 g) fun g1 => nt_b2 (fPp_firstTeller nr ln b x1 x2 g1) fun r2 g3 => (if r2 = (-1 : Int32) then
    (some ((-3 : Int32), g3))
  else
    ((nt_b1 (nt_it (fun z => bPp_spend_23 nr ln b x1 x2 r2 z.1 z.2) nt_fu ((0 : Int32), g3)) fun g13 => some (((g13 b 10) - (1 : Int32)), g13))))
set_option maxRecDepth 100000 in
set_option maxHeartbeats 4000000 in
theorem cPp_spend {l : Launch} {w : nt_w} (hw : nt_isX w) {nr : Nat} {ln : Nat → Nat} {b : Nat}  (hR : nt_isR w nr ln) (hb : nt_isP b) {x1 : Int32} {x2 : Int32} {g : nt_T} {r : Int32} {g2 : nt_T} (hf : fPp_spend nr ln b x1 x2 g = some (r, g2)) : nt_Mi l w yX0_spend cX0_spend 5 (some .int) 11 [.ref (nt_a w b), .int x1, .int x2] g r g2 := by
  refine nt_Mi_of (by decide) (Nat.le_of_ble_eq_true rfl) (fun p e s m args below meth c A X => ?_)
  have X : nt_X cX0_spend 5 RX0 (some .int) w A p s m args meth c := X
  have h : nt_R (fPp_spend nr ln b x1 x2 g) (fun z => z = (r, g2)) := ⟨_, hf, rfl⟩
  unfold fPp_spend at h
  show nt_G p l e (nt_rm 11) s m args below meth c w A 0 0 (nt_Qi w A below args s r g2) 5 0 [(0, .ref (nt_a w b)), (1, .int x1), (2, .int x2)] [] g
  refine nt_aload_n X dX0_spend_0 rfl 0 rfl ?_
  refine nt_iload_n X dX0_spend_1 rfl 1 rfl ?_
  obtain ⟨g1, eg1, h⟩ := nt_R_b1 h
  refine nt_cVv X (As := [.int x1]) b (nt_lP hw hb 0 (by decide)) (nt_eP hw hb) rfl (cPp_lookInto hw hb eg1) wd_421 wd_419 wd_420 wd_1040 wd_13 rfl hd_X0_lookInto ⟨Nat.le_of_ble_eq_true rfl, Nat.le_of_ble_eq_true rfl⟩ ⟨Nat.le_refl 0, Nat.le_refl 0⟩ (Nat.le_of_ble_eq_true rfl) rfl dX0_spend_2 ?_
  refine nt_aload_n X dX0_spend_5 rfl 0 rfl ?_
  refine nt_iload_n X dX0_spend_6 rfl 1 rfl ?_
  refine nt_iload_n X dX0_spend_7 rfl 2 rfl ?_
  obtain ⟨r2, g3, er2, h⟩ := nt_R_b2 h
  refine nt_cVi X (As := [.int x1, .int x2]) b (nt_lP hw hb 0 (by decide)) (nt_eP hw hb) rfl (cPp_firstTeller hw hR hb er2) wd_455 wd_453 wd_454 wd_1048 wd_13 rfl hd_X0_firstTeller ⟨Nat.le_of_ble_eq_true rfl, Nat.le_of_ble_eq_true rfl⟩ ⟨Nat.le_refl 0, Nat.le_refl 0⟩ (Nat.le_of_ble_eq_true rfl) rfl dX0_spend_8 ?_
  refine nt_istore_n X [(3, .int r2), (0, .ref (nt_a w b)), (1, .int x1), (2, .int x2)] dX0_spend_11 rfl (by decide) rfl ?_
  refine nt_iload_n X dX0_spend_12 rfl 0 rfl ?_
  refine nt_iconst X dX0_spend_13 nt_ci_m1 ?_
  obtain ⟨ht, hf⟩ := nt_R_if h
  refine nt_icmp_ne X 20 dX0_spend_14 (by decide) (fun q4 => ?_) (fun q4 => ?_)
  · have h := hf q4
    refine nt_iconst X dX0_spend_20 nt_ci_0 ?_
    refine nt_istore X [(4, .int (0 : Int32)), (3, .int r2), (0, .ref (nt_a w b)), (1, .int x1), (2, .int x2)] dX0_spend_21 (by decide) rfl ?_
    obtain ⟨z14, hz14, h⟩ := nt_R_b1 h
    refine nt_sub [2, 3, 4, 1, 0] rfl ?_
    refine tbPp_spend_23 hw  hR hb X x1 x2 r2 (Qx := fun z => z = z14) (fun g13 hq => ?_) nt_fu (0 : Int32) g3 ⟨_, hz14, rfl⟩
    subst hq
    refine nt_aload_n X dX0_spend_62 rfl 0 rfl ?_
    refine nt_get X b inX0 (nt_lP hw hb 0 (by decide)) (nt_eP hw hb) rfl (j := 10) (by decide) wd_260 (v := .int (g13 b 10)) rfl dX0_spend_63 ?_
    refine nt_iconst X dX0_spend_66 nt_ci_1 ?_
    refine nt_isub X dX0_spend_67 ?_
    have h := nt_R_some h
    exact nt_iret X dX0_spend_68 h
  · have h := ht q4
    refine nt_bipush X dX0_spend_17 nt_cb_m3 ?_
    have h := nt_R_some h
    exact nt_iret X dX0_spend_19 h
def bPp_sleep_45 (b : Nat) (x1 : Int32) (x2 : Int32) (x3 : Int32) (g : nt_T) : Option ((Int32 × nt_T) ⊕ ((nt_T))) :=
  (if (g b 7) ≤ x3 then
    (some (.inr g))
  else
    (nt_gd (nt_in ((x3 * (8 : Int32)) + x1) 72) <| (if x2 < (g (b + 5) (Int32.toNatClampNeg ((x3 * (8 : Int32)) + x1))) then
    (nt_lt (x3 + (1 : Int32)) fun v8 => some (.inl (v8, g)))
  else
    (nt_b1 (fPp_forget b x3 x1 g) fun g9 => nt_lt (x3 + (1 : Int32)) fun v10 => some (.inl (v10, g9))))))
set_option maxRecDepth 100000 in
set_option maxHeartbeats 4000000 in
theorem tbPp_sleep_45 {p : Program} {l : Launch} {e : Env} {s : State} {m : MethodId} {args : Array Value} {below : List Frame} {meth : Method} {c : Code} {w : nt_w} {A : Nat → Prop} {b : Nat} (hw : nt_isX w) (hb : nt_isP b) {Q : State → Prop} (X : nt_X cX0_sleep 4 RX0 none w A p s m args meth c) (x1 : Int32) (x2 : Int32)  {Qx : ((nt_T)) → Prop} (hE0 : ∀ (gy : nt_T), Qx gy → nt_G p l e (nt_rm 5) s m args below meth c w A 0 0 Q 4 80 [(0, .ref (nt_a w b)), (1, .int x1), (2, .int x2)] [] gy) : ∀ (n : Nat) (x3 : Int32) (g : nt_T), nt_R (nt_it (fun z => bPp_sleep_45 b x1 x2 z.1 z.2) n (x3, g)) Qx → nt_G p l e (nt_rm 5) s m args below meth c w A 0 0 Q 4 45 [(0, .ref (nt_a w b)), (1, .int x1), (2, .int x2), (3, .int x3)] [] g := by
  intro n
  induction n with
  | zero =>
    intro x3 g h
    exact nt_R_none h
  | succ n ih =>
    intro x3 g h
    have h : nt_R (bPp_sleep_45 b x1 x2 x3 g) (nt_Qz (fun z => bPp_sleep_45 b x1 x2 z.1 z.2) n Qx) := nt_R_it h
    have hI : ∀ (y3 : Int32) (gy : nt_T), nt_Qz (fun z => bPp_sleep_45 b x1 x2 z.1 z.2) n Qx (.inl (y3, gy)) → nt_G p l e (nt_rm 5) s m args below meth c w A 0 0 Q 4 45 [(0, .ref (nt_a w b)), (1, .int x1), (2, .int x2), (3, .int y3)] [] gy := fun y3 gy q => ih y3 gy q
    have hE0 : ∀ (gy : nt_T), nt_Qz (fun z => bPp_sleep_45 b x1 x2 z.1 z.2) n Qx (.inr gy) → nt_G p l e (nt_rm 5) s m args below meth c w A 0 0 Q 4 80 [(0, .ref (nt_a w b)), (1, .int x1), (2, .int x2)] [] gy := hE0
    generalize nt_Qz (fun z => bPp_sleep_45 b x1 x2 z.1 z.2) n Qx = Qz at h hI hE0
    unfold bPp_sleep_45 at h
    refine nt_iload_n X dX0_sleep_45 rfl 3 rfl ?_
    refine nt_aload_n X dX0_sleep_46 rfl 0 rfl ?_
    refine nt_get X b inX0 (nt_lP hw hb 0 (by decide)) (nt_eP hw hb) rfl (j := 7) (by decide) wd_257 (v := .int (g b 7)) rfl dX0_sleep_47 ?_
    obtain ⟨ht, hf⟩ := nt_R_if h
    refine nt_icmp_ge X 80 dX0_sleep_50 (by decide) (fun q5 => ?_) (fun q5 => ?_)
    · have h := ht q5
      refine nt_sub [0, 1, 2] rfl ?_
      have h := nt_R_some h
      exact hE0 g h
    · have h := hf q5
      refine nt_aload_n X dX0_sleep_53 rfl 0 rfl ?_
      refine nt_get X b inX0 (nt_lP hw hb 0 (by decide)) (nt_eP hw hb) rfl (j := 6) (by decide) wd_256 (v := .ref (nt_a w (b + 5))) rfl dX0_sleep_54 ?_
      refine nt_iload_n X dX0_sleep_57 rfl 3 rfl ?_
      refine nt_bipush X dX0_sleep_58 nt_cb_8 ?_
      refine nt_imul X dX0_sleep_60 ?_
      refine nt_iload_n X dX0_sleep_61 rfl 1 rfl ?_
      refine nt_iadd X dX0_sleep_62 ?_
      obtain ⟨q6, h⟩ := nt_R_gd h
      refine nt_iald X (b + 5) 0 (nt_lP hw hb 5 (by decide)) (nt_eP5 hw hb) (nt_tX hw) q6 dX0_sleep_63 ?_
      refine nt_iload_n X dX0_sleep_64 rfl 2 rfl ?_
      obtain ⟨ht, hf⟩ := nt_R_if h
      refine nt_icmp_gt X 74 dX0_sleep_65 (by decide) (fun q7 => ?_) (fun q7 => ?_)
      · have h := ht q7
        obtain ⟨v8, ev8, h⟩ := nt_R_lt h
        refine nt_iinc X v8 [(3, .int v8), (0, .ref (nt_a w b)), (1, .int x1), (2, .int x2)] dX0_sleep_74 3 rfl (by rw [nt_ci_1]; exact ev8) (by decide) rfl ?_
        refine nt_goto X 45 dX0_sleep_77 (by decide) ?_
        refine nt_sub [1, 2, 3, 0] rfl ?_
        have h := nt_R_some h
        exact hI v8 g h
      · have h := hf q7
        refine nt_aload_n X dX0_sleep_68 rfl 0 rfl ?_
        refine nt_iload_n X dX0_sleep_69 rfl 3 rfl ?_
        refine nt_iload_n X dX0_sleep_70 rfl 1 rfl ?_
        obtain ⟨g9, eg9, h⟩ := nt_R_b1 h
        refine nt_cVv X (As := [.int x3, .int x1]) b (nt_lP hw hb 0 (by decide)) (nt_eP hw hb) rfl (cPp_forget hw hb eg9) wd_379 wd_491 wd_378 wd_1032 wd_13 rfl hd_X0_forget ⟨Nat.le_of_ble_eq_true rfl, Nat.le_of_ble_eq_true rfl⟩ ⟨Nat.le_refl 0, Nat.le_refl 0⟩ (Nat.le_of_ble_eq_true rfl) rfl dX0_sleep_71 ?_
        obtain ⟨v10, ev10, h⟩ := nt_R_lt h
        refine nt_iinc X v10 [(3, .int v10), (0, .ref (nt_a w b)), (1, .int x1), (2, .int x2)] dX0_sleep_74 3 rfl (by rw [nt_ci_1]; exact ev10) (by decide) rfl ?_
        refine nt_goto X 45 dX0_sleep_77 (by decide) ?_
        refine nt_sub [1, 2, 3, 0] rfl ?_
        have h := nt_R_some h
        exact hI v10 g9 h
def bPp_sleep_18 (b : Nat) (x1 : Int32) (g : nt_T) : Option ((Int32 × nt_T) ⊕ ((nt_T))) :=
  (if (g 1 4) ≤ x1 then
    (some (.inr g))
  else
    (nt_b1 (fSh_stays x1 g) fun r3 => nt_lt ((g b 8) - r3) fun v4 => (nt_b1 (nt_it (fun z => bPp_sleep_45 b x1 v4 z.1 z.2) nt_fu ((0 : Int32), g)) fun g11 => nt_lt (x1 + (1 : Int32)) fun v12 => some (.inl (v12, g11)))))
set_option maxRecDepth 100000 in
set_option maxHeartbeats 4000000 in
theorem tbPp_sleep_18 {p : Program} {l : Launch} {e : Env} {s : State} {m : MethodId} {args : Array Value} {below : List Frame} {meth : Method} {c : Code} {w : nt_w} {A : Nat → Prop} {b : Nat} (hw : nt_isX w) (hb : nt_isP b) {Q : State → Prop} (X : nt_X cX0_sleep 4 RX0 none w A p s m args meth c)  {Qx : ((nt_T)) → Prop} (hE0 : ∀ (gy : nt_T), Qx gy → nt_G p l e (nt_rm 5) s m args below meth c w A 0 0 Q 4 86 [(0, .ref (nt_a w b))] [] gy) : ∀ (n : Nat) (x1 : Int32) (g : nt_T), nt_R (nt_it (fun z => bPp_sleep_18 b z.1 z.2) n (x1, g)) Qx → nt_G p l e (nt_rm 5) s m args below meth c w A 0 0 Q 4 18 [(0, .ref (nt_a w b)), (1, .int x1)] [] g := by
  intro n
  induction n with
  | zero =>
    intro x1 g h
    exact nt_R_none h
  | succ n ih =>
    intro x1 g h
    have h : nt_R (bPp_sleep_18 b x1 g) (nt_Qz (fun z => bPp_sleep_18 b z.1 z.2) n Qx) := nt_R_it h
    have hI : ∀ (y1 : Int32) (gy : nt_T), nt_Qz (fun z => bPp_sleep_18 b z.1 z.2) n Qx (.inl (y1, gy)) → nt_G p l e (nt_rm 5) s m args below meth c w A 0 0 Q 4 18 [(0, .ref (nt_a w b)), (1, .int y1)] [] gy := fun y1 gy q => ih y1 gy q
    have hE0 : ∀ (gy : nt_T), nt_Qz (fun z => bPp_sleep_18 b z.1 z.2) n Qx (.inr gy) → nt_G p l e (nt_rm 5) s m args below meth c w A 0 0 Q 4 86 [(0, .ref (nt_a w b))] [] gy := hE0
    generalize nt_Qz (fun z => bPp_sleep_18 b z.1 z.2) n Qx = Qz at h hI hE0
    unfold bPp_sleep_18 at h
    refine nt_iload_n X dX0_sleep_18 rfl 1 rfl ?_
    refine nt_aload_n X dX0_sleep_19 rfl 0 rfl ?_
    refine nt_get X b inX0 (nt_lP hw hb 0 (by decide)) (nt_eP hw hb) rfl (j := 0) (by decide) wd_250 (v := .ref (nt_a w 1)) rfl dX0_sleep_20 ?_
    refine nt_getN X 1 inX5 (nt_lX hw (Nat.le_of_ble_eq_true rfl)) (nt_e1 hw) rfl (j := 4) (by decide) nt_nf5 (v := .int (g 1 4)) rfl dX0_sleep_23 ?_
    obtain ⟨ht, hf⟩ := nt_R_if h
    refine nt_icmp_ge X 86 dX0_sleep_26 (by decide) (fun q2 => ?_) (fun q2 => ?_)
    · have h := ht q2
      refine nt_sub [0] rfl ?_
      have h := nt_R_some h
      exact hE0 g h
    · have h := hf q2
      refine nt_aload_n X dX0_sleep_29 rfl 0 rfl ?_
      refine nt_get X b inX0 (nt_lP hw hb 0 (by decide)) (nt_eP hw hb) rfl (j := 8) (by decide) wd_258 (v := .int (g b 8)) rfl dX0_sleep_30 ?_
      refine nt_aload_n X dX0_sleep_33 rfl 0 rfl ?_
      refine nt_get X b inX0 (nt_lP hw hb 0 (by decide)) (nt_eP hw hb) rfl (j := 0) (by decide) wd_250 (v := .ref (nt_a w 1)) rfl dX0_sleep_34 ?_
      refine nt_iload_n X dX0_sleep_37 rfl 1 rfl ?_
      obtain ⟨r3, er3, h⟩ := nt_R_b1 h
      refine nt_cVNi X (As := [.int x1]) 1 (nt_lX hw (Nat.le_of_ble_eq_true rfl)) (nt_e1 hw) rfl (cSh_stays hw er3) wd_385 nt_nm40 wd_384 wd_1033 wd_2 hd_X5_stays ⟨Nat.le_of_ble_eq_true rfl, Nat.le_of_ble_eq_true rfl⟩ ⟨Nat.le_refl 0, Nat.le_refl 0⟩ (Nat.le_of_ble_eq_true rfl) rfl dX0_sleep_38 ?_
      refine nt_isub X dX0_sleep_41 ?_
      obtain ⟨v4, ev4, h⟩ := nt_R_lt h
      refine nt_topi ev4 ?_
      refine nt_istore_n X [(2, .int v4), (0, .ref (nt_a w b)), (1, .int x1)] dX0_sleep_42 rfl (by decide) rfl ?_
      refine nt_iconst X dX0_sleep_43 nt_ci_0 ?_
      refine nt_istore_n X [(3, .int (0 : Int32)), (2, .int v4), (0, .ref (nt_a w b)), (1, .int x1)] dX0_sleep_44 rfl (by decide) rfl ?_
      obtain ⟨z13, hz13, h⟩ := nt_R_b1 h
      refine nt_sub [2, 3, 1, 0] rfl ?_
      refine tbPp_sleep_45 hw hb X x1 v4 (Qx := fun z => z = z13) (fun g11 hq => ?_) nt_fu (0 : Int32) g ⟨_, hz13, rfl⟩
      subst hq
      obtain ⟨v12, ev12, h⟩ := nt_R_lt h
      refine nt_iinc X v12 [(1, .int v12), (0, .ref (nt_a w b)), (2, .int v4)] dX0_sleep_80 1 rfl (by rw [nt_ci_1]; exact ev12) (by decide) rfl ?_
      refine nt_goto X 18 dX0_sleep_83 (by decide) ?_
      refine nt_sub [1, 0] rfl ?_
      have h := nt_R_some h
      exact hI v12 g11 h
def fPp_sleep (b : Nat) (g : nt_T) : Option (nt_T) :=
  nt_lt (nt_st g b 8 (nt_min (999 : Int32) ((g b 8) + (1 : Int32)))) fun g1 => (nt_b1 (nt_it (fun z => bPp_sleep_18 b z.1 z.2) nt_fu ((0 : Int32), g1)) fun g14 => some g14)
set_option maxRecDepth 100000 in
set_option maxHeartbeats 4000000 in
theorem cPp_sleep {l : Launch} {w : nt_w} (hw : nt_isX w) {b : Nat} (hb : nt_isP b) {g : nt_T} {g2 : nt_T} (hf : fPp_sleep b g = some g2) : nt_Mv l w yX0_sleep cX0_sleep 4 none 5 [.ref (nt_a w b)] g g2 := by
  refine nt_Mv_of (by decide) (Nat.le_of_ble_eq_true rfl) (fun p e s m args below meth c A X => ?_)
  have X : nt_X cX0_sleep 4 RX0 none w A p s m args meth c := X
  have h : nt_R (fPp_sleep b g) (fun z => z = g2) := ⟨_, hf, rfl⟩
  unfold fPp_sleep at h
  show nt_G p l e (nt_rm 5) s m args below meth c w A 0 0 (nt_Qv w A below args s g2) 4 0 [(0, .ref (nt_a w b))] [] g
  refine nt_aload_n X dX0_sleep_0 rfl 0 rfl ?_
  refine nt_sipush X dX0_sleep_1 nt_cs_999 ?_
  refine nt_aload_n X dX0_sleep_4 rfl 0 rfl ?_
  refine nt_get X b inX0 (nt_lP hw hb 0 (by decide)) (nt_eP hw hb) rfl (j := 8) (by decide) wd_258 (v := .int (g b 8)) rfl dX0_sleep_5 ?_
  refine nt_iconst X dX0_sleep_8 nt_ci_1 ?_
  refine nt_iadd X dX0_sleep_9 ?_
  refine nt_mmin X wd_469 wd_163 wd_9 wd_164 ⟨Nat.le_of_ble_eq_true rfl, Nat.le_of_ble_eq_true rfl⟩ ⟨Nat.le_refl 0, Nat.le_refl 0⟩ dX0_sleep_10 ?_
  refine nt_put X b inX0 (nt_lP hw hb 0 (by decide)) (nt_eP hw hb) rfl (j := 8) (by decide) wd_258 tyX0 tyX0_ok nmX0 rfl (ty := .int) rfl rfl rfl (fun _ => Nat.le_of_ble_eq_true rfl) (fun _ => rfl) dX0_sleep_13 ?_
  obtain ⟨g1, eg1, h⟩ := nt_R_lt h
  refine nt_geq eg1 ?_
  refine nt_iconst X dX0_sleep_16 nt_ci_0 ?_
  refine nt_istore_n X [(1, .int (0 : Int32)), (0, .ref (nt_a w b))] dX0_sleep_17 rfl (by decide) rfl ?_
  obtain ⟨z15, hz15, h⟩ := nt_R_b1 h
  refine nt_sub [1, 0] rfl ?_
  refine tbPp_sleep_18 hw hb X  (Qx := fun z => z = z15) (fun g14 hq => ?_) nt_fu (0 : Int32) g1 ⟨_, hz15, rfl⟩
  subst hq
  have h := nt_R_some h
  exact nt_vret X dX0_sleep_86 h
