/-! ===== the law's loop ===== -/
section LL
variable {p : Program} {l : Launch} {e : Env} {s : State} {m : MethodId} {below : List Frame} {meth : Method} {c : Code} {b L : Nat} {xs : Nat → Int32} {w2 : nt_w}
set_option maxRecDepth 100000 in
set_option maxHeartbeats 4000000 in
theorem nt_Lend (X : nt_LX p s m meth c b L xs) {cells slots : Nat} {lv : List (Nat × Value)} {w1 : nt_w} {g1 g2 : nt_T} (h1 : cells ≤ 600000) (h2 : slots ≤ 7302250) : nt_LG p l e s m below meth c b cells slots 1200 lv [] w1 g1 w2 g2 := by
  intro H locs ls a1 a2 a3 a4 hS hl
  refine lv_iconst (v := 1) X.1 X.2.1 dL_law_1200 (by decide) ?_
  refine va_forget (fun q hq => hS.2.2 q hq) ?_
  refine W.widen (k := 600000) (n := 7302250) h1 h2 ?_
  exact lw_ret X.1 X.2.1 X.2.2.2.2.2.2.2.1 X.2.2.2.2.2.2.2.2 dL_law_1201
set_option maxRecDepth 100000 in
set_option maxHeartbeats 4000000 in
theorem law_loop (X : nt_LX p s m meth c b L xs) (hL : L ≤ 384) (hw2 : nt_isM w2) (hW2 : nt_LW s w2) : ∀ (d it : Nat), it + d = 66 → ∀ (w1 : nt_w) (nr : Nat) (ln : Nat → Nat) (g1 g2 : nt_T) (a1 : Nat), nt_isR w1 nr ln → nt_LW s w1 → nt_apW w1 w2 → nt_a w1 0 = a1 → nt_Rel nr ln g1 g2 → nt_LG p l e s m below meth c b (200 + 2 * it) (6000 + 163 * it) 18 [(0, .ref b), (1, .ref a1), (2, .ref (nt_a w2 0)), (3, .int (nI (6 * it)))] [] w1 g1 w2 g2 := by
  intro d
  induction d with
  | zero =>
    intro it hit w1 nr ln g1 g2 a1 hR1 hW1 hap ha hRel
    refine nt_Liload X dL_law_18 rfl 3 rfl ?_
    refine nt_Laload X dL_law_19 rfl 0 rfl ?_
    refine nt_Lslen X dL_law_20 ?_
    refine nt_Lbipush X dL_law_21 (v := 6) (by decide) ?_
    refine nt_Lisub X dL_law_23 ?_
    refine nt_Licmpgt X 1200 dL_law_24 (by decide) (fun q => nt_Lend X (by omega) (by omega)) (fun q => ?_)
    refine absurd ?_ q
    rw [Int32.lt_iff_toInt_lt]
    have e1 : (Int32.ofNat L - (6 : Int32)).toInt = (L : Int) - 6 := pk_sub_toInt (a := L) (b := 6) (by omega) (by omega)
    rw [e1, nI_toInt (by omega)]
    omega
  | succ d ih =>
    intro it hit w1 nr ln g1 g2 a1 hR1 hW1 hap ha hRel
    subst ha
    refine nt_Liload X dL_law_18 rfl 3 rfl ?_
    refine nt_Laload X dL_law_19 rfl 0 rfl ?_
    refine nt_Lslen X dL_law_20 ?_
    refine nt_Lbipush X dL_law_21 (v := 6) (by decide) ?_
    refine nt_Lisub X dL_law_23 ?_
    refine nt_Licmpgt X 1200 dL_law_24 (by decide) (fun q => nt_Lend X (by omega) (by omega)) (fun q => ?_)
    have hi : 6 * it + 5 < L := by
      have e1 : (Int32.ofNat L - (6 : Int32)).toInt = (L : Int) - 6 := pk_sub_toInt (a := L) (b := 6) (by omega) (by omega)
      rw [Int32.lt_iff_toInt_lt, e1, nI_toInt (by omega)] at q
      omega
    have kk : nt_LK p l e s m below meth c b (6 * it) (nt_a w1 0) (nt_a w2 0) (200 + 2 * it) (6000 + 163 * it) w2 := by
      intro u1 nr ln g1 g2 hu hWu hapu hau hRelu
      refine nt_Liinc X dL_law_1194 3 rfl (show nI (6 * it) + Int32.ofInt 6 = nI (6 * (it + 1)) from nI_add (6 * it) 6) (by decide) rfl ?_
      refine nt_Lgoto X 18 dL_law_1197 (by decide) ?_
      refine nt_Lsub [1, 2, 3, 0] rfl ?_
      exact ih (it + 1) (by omega) u1 nr ln g1 g2 (nt_a w1 0) hu hWu hapu hau hRelu
    have hcs2 : 200 + 2 * it + 2 ≤ 600000 ∧ 6000 + 163 * it + 163 ≤ 7302250 := ⟨by omega, by omega⟩
    refine nt_Laload X dL_law_27 rfl 0 rfl ?_
    refine nt_Liload X dL_law_28 rfl 3 rfl ?_
    refine nt_Lsld X (vp_in_nI (by omega) (by omega)) dL_law_29 ?_
    refine nt_Lbipush X dL_law_30 (v := 31) (by decide) ?_
    refine nt_Liand X dL_law_32 ?_
    obtain ⟨k, hk, ek⟩ := pk_andE (xs (nI (6 * it)).toNatClampNeg) (m := 31) 5 (by decide)
    rw [ek]
    have hk : k < 32 := hk
    rcases (show k = 0 ∨ k = 1 ∨ k = 2 ∨ k = 3 ∨ k = 4 ∨ k = 5 ∨ k = 6 ∨ k = 7 ∨ k = 8 ∨ k = 9 ∨ k = 10 ∨ k = 11 ∨ k = 12 ∨ k = 13 ∨ k = 14 ∨ k = 15 ∨ k = 16 ∨ k = 17 ∨ k = 18 ∨ k = 19 ∨ k = 20 ∨ k = 21 ∨ k = 22 ∨ k = 23 ∨ k = 24 ∨ k = 25 ∨ k = 26 ∨ k = 27 ∨ k = 28 ∨ k = 29 ∨ k = 30 ∨ k = 31 by omega) with rfl | rfl | rfl | rfl | rfl | rfl | rfl | rfl | rfl | rfl | rfl | rfl | rfl | rfl | rfl | rfl | rfl | rfl | rfl | rfl | rfl | rfl | rfl | rfl | rfl | rfl | rfl | rfl | rfl | rfl | rfl | rfl
    · exact nt_Ltbl X 176 dL_law_33 (off := 143) (by decide) (by decide) rfl (by decide) (law_0 X hL hR1 hw2 hW1 hW2 hap hcs2 hi hRel kk)
    · exact nt_Ltbl X 219 dL_law_33 (off := 186) (by decide) (by decide) rfl (by decide) (law_1 X hL hR1 hw2 hW1 hW2 hap hcs2 hi hRel kk)
    · exact nt_Ltbl X 252 dL_law_33 (off := 219) (by decide) (by decide) rfl (by decide) (law_2 X hL hR1 hw2 hW1 hW2 hap hcs2 hi hRel kk)
    · exact nt_Ltbl X 285 dL_law_33 (off := 252) (by decide) (by decide) rfl (by decide) (law_3 X hL hR1 hw2 hW1 hW2 hap hcs2 hi hRel kk)
    · exact nt_Ltbl X 328 dL_law_33 (off := 295) (by decide) (by decide) rfl (by decide) (law_4 X hL hR1 hw2 hW1 hW2 hap hcs2 hi hRel kk)
    · exact nt_Ltbl X 371 dL_law_33 (off := 338) (by decide) (by decide) rfl (by decide) (law_5 X hL hR1 hw2 hW1 hW2 hap hcs2 hi hRel kk)
    · exact nt_Ltbl X 414 dL_law_33 (off := 381) (by decide) (by decide) rfl (by decide) (law_6 X hL hR1 hw2 hW1 hW2 hap hcs2 hi hRel kk)
    · exact nt_Ltbl X 447 dL_law_33 (off := 414) (by decide) (by decide) rfl (by decide) (law_7 X hL hR1 hw2 hW1 hW2 hap hcs2 hi hRel kk)
    · exact nt_Ltbl X 470 dL_law_33 (off := 437) (by decide) (by decide) rfl (by decide) (law_8 X hL hR1 hw2 hW1 hW2 hap hcs2 hi hRel kk)
    · exact nt_Ltbl X 483 dL_law_33 (off := 450) (by decide) (by decide) rfl (by decide) (law_9 X hL hR1 hw2 hW1 hW2 hap hcs2 hi hRel kk)
    · exact nt_Ltbl X 506 dL_law_33 (off := 473) (by decide) (by decide) rfl (by decide) (law_10 X hL hR1 hw2 hW1 hW2 hap hcs2 hi hRel kk)
    · exact nt_Ltbl X 529 dL_law_33 (off := 496) (by decide) (by decide) rfl (by decide) (law_11 X hL hR1 hw2 hW1 hW2 hap hcs2 hi hRel kk)
    · exact nt_Ltbl X 562 dL_law_33 (off := 529) (by decide) (by decide) rfl (by decide) (law_12 X hL hR1 hw2 hW1 hW2 hap hcs2 hi hRel kk)
    · exact nt_Ltbl X 596 dL_law_33 (off := 563) (by decide) (by decide) rfl (by decide) (law_13 X hL hR1 hw2 hW1 hW2 hap hcs2 hi hRel kk)
    · exact nt_Ltbl X 630 dL_law_33 (off := 597) (by decide) (by decide) rfl (by decide) (law_14 X hL hR1 hw2 hW1 hW2 hap hcs2 hi hRel kk)
    · exact nt_Ltbl X 663 dL_law_33 (off := 630) (by decide) (by decide) rfl (by decide) (law_15 X hL hR1 hw2 hW1 hW2 hap hcs2 hi hRel kk)
    · exact nt_Ltbl X 676 dL_law_33 (off := 643) (by decide) (by decide) rfl (by decide) (law_16 X hL hR1 hw2 hW1 hW2 hap hcs2 hi hRel kk)
    · exact nt_Ltbl X 709 dL_law_33 (off := 676) (by decide) (by decide) rfl (by decide) (law_17 X hL hR1 hw2 hW1 hW2 hap hcs2 hi hRel kk)
    · exact nt_Ltbl X 742 dL_law_33 (off := 709) (by decide) (by decide) rfl (by decide) (law_18 X hL hR1 hw2 hW1 hW2 hap hcs2 hi hRel kk)
    · exact nt_Ltbl X 765 dL_law_33 (off := 732) (by decide) (by decide) rfl (by decide) (law_19 X hL hR1 hw2 hW1 hW2 hap hcs2 hi hRel kk)
    · exact nt_Ltbl X 798 dL_law_33 (off := 765) (by decide) (by decide) rfl (by decide) (law_20 X hL hR1 hw2 hW1 hW2 hap hcs2 hi hRel kk)
    · exact nt_Ltbl X 841 dL_law_33 (off := 808) (by decide) (by decide) rfl (by decide) (law_21 X hL hR1 hw2 hW1 hW2 hap hcs2 hi hRel kk)
    · exact nt_Ltbl X 854 dL_law_33 (off := 821) (by decide) (by decide) rfl (by decide) (law_22 X hL hR1 hw2 hW1 hW2 hap hcs2 hi hRel kk)
    · exact nt_Ltbl X 877 dL_law_33 (off := 844) (by decide) (by decide) rfl (by decide) (law_23 X hL hR1 hw2 hW1 hW2 hap hcs2 hi hRel kk)
    · exact nt_Ltbl X 910 dL_law_33 (off := 877) (by decide) (by decide) rfl (by decide) (law_24 X hL hR1 hw2 hW1 hW2 hap hcs2 hi hRel kk)
    · exact nt_Ltbl X 923 dL_law_33 (off := 890) (by decide) (by decide) rfl (by decide) (law_25 X hL hR1 hw2 hW1 hW2 hap hcs2 hi hRel kk)
    · exact nt_Ltbl X 936 dL_law_33 (off := 903) (by decide) (by decide) rfl (by decide) (law_26 X hL hR1 hw2 hW1 hW2 hap hcs2 hi hRel kk)
    · exact nt_Ltbl X 959 dL_law_33 (off := 926) (by decide) (by decide) rfl (by decide) (law_27 X hL hR1 hw2 hW1 hW2 hap hcs2 hi hRel kk)
    · exact nt_Ltbl X 1002 dL_law_33 (off := 969) (by decide) (by decide) rfl (by decide) (law_28 X hL hR1 hw2 hW1 hW2 hap hcs2 hi hRel kk)
    · exact nt_Ltbl X 1045 dL_law_33 (off := 1012) (by decide) (by decide) rfl (by decide) (law_29 X hL hR1 hw2 hW1 hW2 hap hcs2 hi hRel kk)
    · exact nt_Ltbl X 1108 dL_law_33 (off := 1075) (by decide) (by decide) rfl (by decide) (law_30 X hL hR1 hw2 hW1 hW2 hap hcs2 hi hRel kk)
    · exact nt_Ltbl X 1161 dL_law_33 (off := 1128) (by decide) (by decide) rfl (by decide) (law_31 X hL hR1 hw2 hW1 hW2 hap hcs2 hi hRel kk)
end LL
