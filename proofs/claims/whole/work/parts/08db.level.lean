/-! ===== one level: operands and operators ===== -/
def LV (k : Nat) : Nat := if k = 6 then 0 else if k = 7 then 1 else if k = 15 then 3 else if k = 16 then 3 else if k = 17 then 4 else if k = 18 then 2 else if k = 19 then 2 else 9
theorem pc_lv : ∀ k, k < 20 → fRd_levelOf (nI k) nt_g0 = some (if LV k = 9 then -1 else nI (LV k)) := by decide +kernel
theorem q_levelOf {k : Nat} (hk : k < 11000) (g : nt_T) : fRd_levelOf (nI k) g = some (if LV k = 9 then -1 else nI (LV k)) := by
  by_cases c : k < 20
  · exact pc_lv k c
  · have n : ∀ j : Nat, j < 20 → ¬ nI k = nI j := fun j hj q => by
      have := (nI_eq (by omega) (by omega)).mp q
      omega
    have e9 : LV k = 9 := by
      unfold LV
      rw [if_neg (by omega), if_neg (by omega), if_neg (by omega), if_neg (by omega), if_neg (by omega), if_neg (by omega), if_neg (by omega)]
    rw [if_pos e9]
    unfold fRd_levelOf
    rw [if_neg (show ¬ nI k = 6 from n 6 (by omega)), if_neg (show ¬ nI k = 7 from n 7 (by omega)), if_neg (show ¬ nI k = 8 from n 8 (by omega)), if_neg (show ¬ nI k = 9 from n 9 (by omega)), if_neg (show ¬ nI k = 10 from n 10 (by omega)), if_neg (show ¬ nI k = 11 from n 11 (by omega)), if_neg (show ¬ nI k = 12 from n 12 (by omega)), if_neg (show ¬ nI k = 13 from n 13 (by omega)), if_neg (show ¬ nI k = 14 from n 14 (by omega)), if_neg (show ¬ nI k = 15 from n 15 (by omega)), if_neg (show ¬ nI k = 16 from n 16 (by omega)), if_neg (show ¬ nI k = 17 from n 17 (by omega)), if_neg (show ¬ nI k = 18 from n 18 (by omega)), if_neg (show ¬ nI k = 19 from n 19 (by omega))]
theorem LV_9 {k L : Nat} (hL : L < 5) (h : LV k = L) : 6 ≤ k ∧ k < 20 ∧ k ≠ 8 := by
  unfold LV at h
  (repeat' split at h) <;> omega
theorem LV_op : ∀ k, k < 20 → LV k < 5 → ¬ (nI k < (6 : Int32) ∨ ¬ nI k < (32 : Int32)) ∧ ¬ (nI k = (8 : Int32) ∨ nI k = (20 : Int32)) := by decide +kernel
/-- one round of the class's loop, the reference's round being of this form -/
theorem q_round {N t a ta k d cs n L fa fb : Nat} {nm : Nat → Int32} {g r : nt_T} {v : Int32} {need : Nat} (hL : L < 5) (hS : SIM d (L + 1)) (h1 : 8 * d + 7 - (L + 1) ≤ fa) (h2 : 8 * d + 7 - (L + 1) ≤ fb) (h : nt_ps N t a ta k d (cs + n) nm g r) (hop : LV k = L) (hP : PUSH nm (g 12) cs n need v) (hn1 : need ≤ 6 + 5 * d - L) : ∃ g5 r5, fRd_step g = some g5 ∧ fMo_next r = some r5 ∧ ∃ r12 g13 w r7 g14, (kRd fa).1 (nI (L + 1)) g5 = some (bI r12, g13) ∧ refL fb (L + 1) r5 = some (w, r7) ∧ fRd_write (nI k) g13 = some g14 ∧ nt_pM r r7 ∧ ((r12 = true ∧ ∃ a' ta' k' n', nt_ps N t a' ta' k' d (cs + n') nm g14 r7 ∧ nt_pG cs g g14 ∧ ta + 2 ≤ ta' ∧ n' + ta ≤ n + ta' ∧ PUSH nm (g14 12) cs n' (6 + 5 * d - L) (jn (nI k) v w)) ∨ (r12 = false ∧ nt_FL g14 r7 ∧ nt_pG 0 g g14)) := by
  obtain ⟨k6, k20, k8⟩ := LV_9 hL hop
  obtain ⟨o1, o2⟩ := LV_op k k20 (by omega)
  obtain ⟨g5, r5, a5, ta5, k5, e1, e2, f1, f2, f3, f4⟩ := q_stepP h (show k ≠ 21 by omega) (show k ≠ 22 by omega)
  refine ⟨g5, r5, e1, e2, ?_⟩
  rcases hS fa fb h1 h2 N t a5 ta5 k5 (cs + n) nm g5 r5 f1 with ⟨g', r', w, a', ta', k', n', e3, e4, p1, p2, p3, p4, p5, p6⟩ | ⟨g', r', w, e3, e4, p1, p2, p3⟩
  · have hN := p1.1.1.1
    have hle := p1.1.2.2.2.2.2.2.2.1
    have haN := p1.1.2.2.2.2.2.2.2.2.1
    have hcs := h.2.2.2.2.2.2.1
    obtain ⟨w1, w2, w3⟩ := ps_write p1 (c := k) (by omega) (by omega)
    refine ⟨true, g', w, r', _, e3, e4, q_write p1.2.2.2.2.2.1 (by omega), pM_tr (kM_p f3) p3, Or.inl ⟨rfl, a', ta', k', n + n' + 1, ?_, ?_, by omega, by omega, ?_⟩⟩
    · rw [show cs + (n + n' + 1) = cs + n + n' + 1 by omega]
      exact w1
    · exact pG_tr (Nat.le_add_right cs n) (kG_p cs f2) (pG_tr (Nat.le_refl (cs + n)) p2 ⟨w2.1, fun j hj => w2.2 j (by omega)⟩)
    · have q1 : PUSH nm ((nt_st (nt_st g' 12 (cs + n + n') (nI k)) 10 7 (nI (cs + n + n' + 1))) 12) cs n need v := by
        refine PUSH_congr hP (fun j h1 h2 => ?_)
        rw [w2.2 j (by omega), p2.2 j (by omega), f2 12 j (by omega)]
      have q2 := PUSH_congr p6 (code' := (nt_st (nt_st g' 12 (cs + n + n') (nI k)) 10 7 (nI (cs + n + n' + 1))) 12) (fun j h1 h2 => w2.2 j (by omega))
      exact PUSH_bin q1 q2 w3 o1 o2 hn1 (by omega)
  · obtain ⟨g6, e6, w1, w2⟩ := q_writeF (x := nI k) p1
    exact ⟨false, g', w, r', g6, e3, e4, e6, pM_tr (kM_p f3) p3, Or.inr ⟨rfl, w1, pG_tr (Nat.le_refl 0) (pG_0 (kG_p 0 f2)) (pG_tr (Nat.le_refl 0) p2 w2)⟩⟩
/-- the reference's round: what it does at an operator of its level, elsewhere, and once bad -/
def nt_RB (L fb : Nat) (RB : Int32 × nt_T → Option ((Int32 × nt_T) ⊕ (Int32 × nt_T))) : Prop := (∀ v r, r 0 32 = 1 → RB (v, r) = some (.inr (v, r))) ∧ ∀ N t a ta k g v r, nt_rs N t a ta k g r → r 0 32 = 0 → (LV k ≠ L → RB (v, r) = some (.inr (v, r))) ∧ (LV k = L → ∀ r5 w r7, fMo_next r = some r5 → refL fb (L + 1) r5 = some (w, r7) → RB (v, r) = some (.inl (jn (nI k) v w, r7)))
theorem q_level {N t a ta k d cs n L fa fb : Nat} {nm : Nat → Int32} {g r : nt_T} {v : Int32} {RB : Int32 × nt_T → Option ((Int32 × nt_T) ⊕ (Int32 × nt_T))} {Fo : nt_T → Option (Int32 × nt_T)} (hL : L < 5) (hS : SIM d (L + 1)) (h1 : 8 * d + 7 - (L + 1) ≤ fa) (h2 : 8 * d + 7 - (L + 1) ≤ fb) (hR : nt_RB L fb RB) (h : (nt_ps N t a ta k d (cs + n) nm g r ∧ PUSH nm (g 12) cs n (6 + 5 * d - (L + 1)) v)) : ∃ b g' v' r', nt_it (fun z => bRd_readsLevel_78 (kRd fa).1 Fo (nI L) (160 : Int32) z.1 z.2.1 z.2.2) nt_fu ((1 : Int32), (0 : Int32), g) = some (bI b, g') ∧ nt_it RB nt_fu (v, r) = some (v', r') ∧ nt_pM r r' ∧ ((b = true ∧ ∃ a' ta' k' n', nt_ps N t a' ta' k' d (cs + n') nm g' r' ∧ nt_pG cs g g' ∧ ta ≤ ta' ∧ n' + ta ≤ n + ta' ∧ PUSH nm (g' 12) cs n' (6 + 5 * d - L) v') ∨ (b = false ∧ nt_FL g' r' ∧ nt_pG 0 g g')) := by
  have H : ∃ x y, nt_it (fun z => bRd_readsLevel_78 (kRd fa).1 Fo (nI L) (160 : Int32) z.1 z.2.1 z.2.2) nt_fu ((1 : Int32), (0 : Int32), g) = some x ∧ nt_it RB nt_fu (v, r) = some y ∧ nt_pM r y.2 ∧ ∃ b : Bool, x.1 = bI b ∧ ((b = true ∧ ∃ a' ta' k' n', nt_ps N t a' ta' k' d (cs + n') nm x.2 y.2 ∧ nt_pG cs g x.2 ∧ ta ≤ ta' ∧ n' + ta ≤ n + ta' ∧ PUSH nm (x.2 12) cs n' (6 + 5 * d - L) y.1) ∨ (b = false ∧ nt_FL x.2 y.2 ∧ nt_pG 0 g x.2)) := by
    refine q_both (fun i s u => ∃ gi vi ri, u = (vi, ri) ∧ nt_pM r ri ∧ ((s = ((1 : Int32), nI i, gi) ∧ ∃ a' ta' k' n', nt_ps N t a' ta' k' d (cs + n') nm gi ri ∧ nt_pG cs g gi ∧ ta + 2 * i ≤ ta' ∧ n' + ta ≤ n + ta' ∧ PUSH nm (gi 12) cs n' (6 + 5 * d - L) vi) ∨ (s = ((0 : Int32), nI i, gi) ∧ nt_FL gi ri ∧ nt_pG 0 g gi))) _ 160 (by omega) ⟨g, v, r, rfl, pM_rf r, Or.inl ⟨rfl, a, ta, k, n, h.1, pG_rf cs g, by omega, by omega, PUSH_need h.2 (by omega)⟩⟩ ?_ ?_
    · intro i s u hi hI
      obtain ⟨gi, vi, ri, rfl, hM, hI⟩ := hI
      have c160 : ¬ (160 : Int32) ≤ nI i := nI_ge (b := 160) hi (by omega)
      rcases hI with ⟨rfl, a', ta', k', n', p1, p2, p3, p4, p5⟩ | ⟨rfl, p1, p2⟩
      · have z0 : ¬ (1 : Int32) = 0 := by decide
        have hk : gi 10 3 = nI k' := p1.1.2.2.2.2.2.1
        have hkl : k' < 11000 := p1.1.2.2.2.2.2.2.2.2.2.2
        show (∃ s' u', bRd_readsLevel_78 (kRd fa).1 Fo (nI L) (160 : Int32) 1 (nI i) gi = some (.inl s') ∧ RB (vi, ri) = some (.inl u') ∧ _) ∨ ∃ x y, bRd_readsLevel_78 (kRd fa).1 Fo (nI L) (160 : Int32) 1 (nI i) gi = some (.inr x) ∧ RB (vi, ri) = some (.inr y) ∧ _
        obtain ⟨R1, R2⟩ := hR.2 N t a' ta' k' gi vi ri p1.1 p1.2.1
        unfold bRd_readsLevel_78
        rw [if_neg c160, if_neg z0, hk, q_levelOf hkl, q_b1]
        by_cases hop : LV k' = L
        · have c9 : ¬ LV k' = 9 := by omega
          rw [if_neg c9, hop, if_pos rfl, q_lt]
          obtain ⟨g5, r5, e1, e2, r12, g13, w, r7, g14, e3, e4, e5, m1, hh⟩ := q_round hL hS h1 h2 p1 hop p5 (Nat.le_refl _)
          rw [e1, q_b1, nI_1, e3, q_b2, e5, q_b1, q_lt, nI_1, R2 hop r5 w r7 e2 e4]
          left
          rcases hh with ⟨rfl, a2, ta2, k2, n2, u1, u2, u3, u4, u5⟩ | ⟨rfl, u1, u2⟩
          · exact ⟨_, _, rfl, rfl, g14, _, r7, rfl, pM_tr hM m1, Or.inl ⟨rfl, a2, ta2, k2, n2, u1, pG_tr (Nat.le_refl cs) p2 u2, by omega, by omega, u5⟩⟩
          · exact ⟨_, _, rfl, rfl, g14, _, r7, rfl, pM_tr hM m1, Or.inr ⟨rfl, u1, pG_tr (Nat.le_refl 0) (pG_0 p2) u2⟩⟩
        · have c9 : ¬ (if LV k' = 9 then (-1 : Int32) else nI (LV k')) = nI L := by
            by_cases c : LV k' = 9
            · rw [if_pos c]
              exact fun q => nI_m1 (show L < 2 ^ 31 by omega) q.symm
            · rw [if_neg c]
              have : LV k' ≤ 9 := by
                unfold LV
                (repeat' split) <;> omega
              exact fun q => hop ((nI_eq (by omega) (by omega)).mp q)
          rw [if_neg c9, R1 hop]
          right
          exact ⟨_, _, rfl, rfl, hM, true, rfl, Or.inl ⟨rfl, a', ta', k', n', p1, p2, by omega, p4, p5⟩⟩
      · right
        refine ⟨((0 : Int32), gi), (vi, ri), ?_, hR.1 vi ri p1.1, hM, false, rfl, Or.inr ⟨rfl, p1, p2⟩⟩
        show bRd_readsLevel_78 (kRd fa).1 Fo (nI L) (160 : Int32) 0 (nI i) gi = _
        unfold bRd_readsLevel_78
        rw [if_neg c160, if_pos rfl]
    · intro s u hI
      obtain ⟨gi, vi, ri, rfl, hM, hI⟩ := hI
      rcases hI with ⟨rfl, a', ta', k', n', p1, p2, p3, p4, p5⟩ | ⟨rfl, p1, p2⟩
      · have hN := p1.1.1.1
        have hle := p1.1.2.2.2.2.2.2.2.1
        have haN := p1.1.2.2.2.2.2.2.2.2.1
        omega
      · refine ⟨((0 : Int32), gi), (vi, ri), ?_, hR.1 vi ri p1.1, hM, false, rfl, Or.inr ⟨rfl, p1, p2⟩⟩
        show bRd_readsLevel_78 (kRd fa).1 Fo (nI L) (160 : Int32) 0 (nI 160) gi = _
        unfold bRd_readsLevel_78
        rw [if_pos (show (160 : Int32) ≤ nI 160 by decide)]
  obtain ⟨⟨x1, g'⟩, ⟨v', r'⟩, e1, e2, hM, b, hb, hh⟩ := H
  have hb : x1 = bI b := hb
  subst hb
  exact ⟨b, g', v', r', e1, e2, hM, hh⟩
