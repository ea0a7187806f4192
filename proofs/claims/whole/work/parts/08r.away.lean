/-! ===== keepAway, send, stranger ===== -/
theorem Q14_P {n m nr : Nat} {ln : Nat → Nat} {g r g' r' : nt_T} (hc : nt_pE 21 g g') (hm : nt_mE r r') (h : nt_Q 14 n m nr ln g r) : nt_Q 14 n m nr ln g' r' := by
  refine ⟨qS_P (b := 21) (Or.inr rfl) hc (mE_r hm) h.1, qT_P (b := 21) (Or.inr rfl) hc (mE_r hm) h.2.1, ?_⟩
  have hP := h.2.2
  unfold nt_qP nt_q1 at hP ⊢
  rw [hc 14 7 (by unfold nt_cS; omega) (by omega), hc 14 8 (by unfold nt_cS; omega) (by omega), hc 14 9 (by unfold nt_cS; omega) (by omega), show g' (14 + 1) = g (14 + 1) from funext (fun j => hc 15 j (by unfold nt_cS; omega) (by omega)), show g' (14 + 2) = g (14 + 2) from funext (fun j => hc 16 j (by unfold nt_cS; omega) (by omega)), show g' (14 + 3) = g (14 + 3) from funext (fun j => hc 17 j (by unfold nt_cS; omega) (by omega)), show g' (14 + 4) = g (14 + 4) from funext (fun j => hc 18 j (by unfold nt_cS; omega) (by omega)), show g' (14 + 5) = g (14 + 5) from funext (fun j => hc 19 j (by unfold nt_cS; omega) (by omega)), hm 0 4 (by unfold nt_mS; omega), hm 0 17 (by unfold nt_mS; omega), hm 0 18 (by unfold nt_mS; omega), mE_row hm (k := 8) (by omega), mE_row hm (k := 9) (by omega), mE_row hm (k := 10) (by omega), mE_row hm (k := 11) (by omega), mE_row hm (k := 12) (by omega)]
  exact hP
theorem Rel_21 {n m nr : Nat} {ln : Nat → Nat} {g r g' r' : nt_T} (hn : n ≤ 8) (hQ : nt_Q 14 n m nr ln g r) (hO : nt_O n nr g r) (hc : nt_pE 21 g g') (hm : nt_mE r r') : nt_Rel nr ln g' r' :=
  ⟨m, n, hn, Q14_P hc hm hQ, O_P (Or.inr rfl) hc (mE_r hm) hO⟩
theorem q_move {n m nr : Nat} {ln : Nat → Nat} {g r : nt_T} (hQ : nt_Q 21 n m nr ln g r) {p : Nat} (hp : p < n) {w : Int32} (hw : w = -1 ∨ ∃ h, h < 4 ∧ w = nI h) : nt_Q 21 n m nr ln (nt_st g 22 p w) (nt_st r 11 p w) := by
  have hc : nt_pE 21 g (nt_st g 22 p w) := fun k j _ q => st_slot _ _ (Or.inl (by omega))
  have hm : nt_rE r (nt_st r 11 p w) := fun k j _ _ q _ _ => st_slot _ _ (Or.inl q)
  refine ⟨qS_P (b := 21) (Or.inr rfl) hc hm hQ.1, qT_P (b := 21) (Or.inr rfl) hc hm hQ.2.1, ?_⟩
  obtain ⟨p1, p2, p3, p4, p5, p6, p7⟩ := hQ.2.2
  refine ⟨p1, by rw [st_slot _ _ (by omega)]; exact p2, by rw [st_slot _ _ (by omega)]; exact p3, by rw [st_slot _ _ (by omega), st_slot _ _ (by omega)]; exact p4, by rw [st_slot _ _ (by omega), st_slot _ _ (by omega)]; exact p5, by rw [st_slot _ _ (by omega)]; exact p6, fun q hq => ?_⟩
  have := p7 q hq
  unfold nt_q1 at this ⊢
  rw [st_row _ _ _ (show 21 + 2 ≠ 22 by omega), st_row _ _ _ (show 21 + 3 ≠ 22 by omega), st_row _ _ _ (show 21 + 4 ≠ 22 by omega), st_row _ _ _ (show 21 + 5 ≠ 22 by omega), st_row _ _ _ (show 8 ≠ 11 by omega), st_row _ _ _ (show 9 ≠ 11 by omega), st_row _ _ _ (show 10 ≠ 11 by omega), st_row _ _ _ (show 12 ≠ 11 by omega)]
  by_cases e : q = p
  · subst e
    rw [st_eq, st_eq]
    exact ⟨rfl, this.2.1, this.2.2.1, this.2.2.2.1, hw, this.2.2.2.2.2⟩
  · rw [st_slot _ _ (Or.inr e), st_slot _ _ (Or.inr e)]
    exact this
/-- the house of p stands at something else for a while -/
def nt_oE (p : Nat) (r r' : nt_T) : Prop := ∀ k j, ¬ nt_mS k j → ¬ (k = 11 ∧ j = p) → r' k j = r k j
theorem oE_back {p : Nat} {r r' : nt_T} {w : Int32} (h : nt_oE p r r') (hw : w = r 11 p) : nt_mE r (nt_st r' 11 p w) := by
  intro k j q
  by_cases e : k = 11 ∧ j = p
  · obtain ⟨rfl, rfl⟩ := e
    rw [st_eq, hw]
  · rw [st_slot _ _ (by omega)]
    exact h k j q e
theorem q_take21 {n m nr : Nat} {ln : Nat → Nat} {g r : nt_T} (hQ : nt_Q 14 n m nr ln g r) : ∃ g', fPp_takeAll 21 14 g = some g' ∧ nt_Q 21 n m nr ln g' r ∧ nt_pE 21 g g' := by
  obtain ⟨g', e, hP, hf⟩ := q_take hQ.2.2
  have hc : nt_pE 21 g g' := fun k j _ q => by rw [hf k j (by omega)]
  exact ⟨g', e, ⟨qS_P (b := 21) (Or.inr rfl) hc (rE_rf r) hQ.1, qT_P (b := 21) (Or.inr rfl) hc (rE_rf r) hQ.2.1, hP⟩, hc⟩
theorem st_keepAway {nr : Nat} {ln : Nat → Nat} {g r : nt_T} (h : nt_Rel nr ln g r) (x1 : Int32) : ∃ (v : Int32) (ga : nt_T) (gb : nt_T), fNt_keepAway nr ln x1 g = some (v, ga) ∧ fMo_keepAway x1 r = some (v, gb) ∧ nt_Rel nr ln ga gb := by
  obtain ⟨m, n, hn, hQ, hO⟩ := id h
  have hm8 := hQ.1.1
  unfold fNt_keepAway fMo_keepAway
  rw [(q_house x1 g r).1, (q_house x1 g r).2, q_b1, q_b1]
  cases h1 : nt_in x1 4
  · exact ⟨_, _, _, if_pos rfl, if_pos rfl, h⟩
  rw [if_neg (show ¬ bI true = 0 by decide), if_neg (show ¬ bI true = 0 by decide)]
  obtain ⟨c, hc, rfl⟩ := q_in_of (by omega) h1
  obtain ⟨g0, e0, hQ0, hp0⟩ := q_take21 hQ
  rw [e0, q_b1]
  have H : ∃ x y, nt_it (fun z => bNt_keepAway_28 nr ln (nI c) z.1 z.2.1 z.2.2.1 z.2.2.2) nt_fu ((-1 : Int32), (-1 : Int32), (0 : Int32), g0) = some x ∧ nt_it (fun z => bMo_keepAway_17 (nI c) z.1 z.2.1 z.2.2.1 z.2.2.2) nt_fu ((-1 : Int32), (0 : Int32), (0 : Int32), r) = some y ∧ x.1 = y.1 ∧ nt_pE 21 g x.2 ∧ nt_mE r y.2 := by
    refine q_both (fun p s t => p ≤ n ∧ ∃ b u v gi ri, s = (b, u, nI p, gi) ∧ t = (b, v, nI p, ri) ∧ ((b = -1 ∧ u = -1) ∨ (¬ b = -1 ∧ v = u)) ∧ nt_pE 21 g gi ∧ nt_mE r ri ∧ nt_Q 21 n m nr ln gi ri) _ n (by omega) ⟨by omega, -1, -1, 0, g0, r, rfl, rfl, Or.inl ⟨rfl, rfl⟩, hp0, mE_rf r, hQ0⟩ ?_ ?_
    · intro p s t hp hI
      obtain ⟨-, b, u, v, gi, ri, rfl, rfl, hb, hpE, hmE, hQi⟩ := hI
      left
      have hQ14 := Q14_P hpE hmE hQ
      have h7 : gi 14 7 = nI n := hQ14.2.2.2.1
      have h17 : ri 0 17 = nI n := hQ14.2.2.2.2.1
      have h15 : gi 15 p = ri 11 p := (hQ14.2.2.2.2.2.2.2.2 p hp).1
      have hin := q_in (show p < 9 by omega) (show 9 < 2 ^ 31 by omega)
      have hcl := nI_clamp (show p < 2 ^ 31 by omega)
      show ∃ s' t', bNt_keepAway_28 nr ln (nI c) b u (nI p) gi = some (.inl s') ∧ bMo_keepAway_17 (nI c) b v (nI p) ri = some (.inl t') ∧ _
      unfold bNt_keepAway_28 bMo_keepAway_17 jMo_keepAway_74
      rw [h7, h17, if_neg (nI_ge hp (by omega)), if_neg (nI_ge hp (by omega))]
      simp only [hin, hcl, q_gt, q_lt, h15, nI_1]
      by_cases e : ri 11 p = nI c
      · rw [if_pos e, if_pos e]
        have hQ1 := q_move hQi hp (w := -1) (Or.inl rfl)
        obtain ⟨vc, g2, e1, hcE, hB⟩ := q_tellIn (Or.inr rfl) hQ1 (nI c)
        obtain ⟨vm, r2, e2, huE, hB2⟩ := q_allMay (Or.inr rfl) hQ1 (nI c)
        have heq := isB_eq hB hB2
        subst heq
        rw [e1, e2, q_b2, q_b2, (isB_cnt (by omega) hB _).1, (isB_cnt (by omega) hB _).2, q_b1, q_b1]
        have hp1 : nt_pE 21 g (nt_st g2 22 p (nI c)) := by
          intro k j q1 q2
          rw [st_slot _ _ (by omega), hcE k j q1, st_slot _ _ (by omega)]
          exact hpE k j q1 q2
        have hm1 : nt_mE r (nt_st r2 11 p (nI c)) := by
          refine mE_tr hmE (oE_back (p := p) (fun k j q1 q2 => ?_) e.symm)
          rw [uE_m huE k j q1, st_slot _ _ (by omega)]
        have hQ2 := q_move (Q_E (Or.inr rfl) hcE (uE_m huE) hQ1) hp (w := nI c) (Or.inr ⟨c, hc, rfl⟩)
        by_cases hb1 : b = -1
        · have hu : u = -1 := by
            rcases hb with h | h
            · exact h.2
            · exact absurd hb1 h.1
          have hk := cntB_le (mayB (nt_st ri 11 p (-1)) n m (nI c)) m
          rw [if_pos hb1, hu, if_neg (fun q => nI_pos (show cntB (mayB (nt_st ri 11 p (-1)) n m (nI c)) m < 2 ^ 31 by omega) (by
            rw [Int32.le_iff_toInt_le, show (-1 : Int32).toInt = -1 by decide, nI_toInt (by omega)] at q
            omega))]
          exact ⟨_, _, rfl, rfl, by omega, _, _, _, _, _, rfl, rfl, Or.inr ⟨nI_m1 (by omega), rfl⟩, hp1, hm1, hQ2⟩
        · have hv : v = u := by
            rcases hb with h | h
            · exact absurd h.1 hb1
            · exact h.2
          rw [if_neg hb1, hv]
          by_cases hle : nI (cntB (mayB (nt_st ri 11 p (-1)) n m (nI c)) m) ≤ u
          · rw [if_pos hle, if_pos hle]
            exact ⟨_, _, rfl, rfl, by omega, _, _, _, _, _, rfl, rfl, Or.inr ⟨hb1, rfl⟩, hp1, hm1, hQ2⟩
          · rw [if_neg hle, if_neg hle]
            exact ⟨_, _, rfl, rfl, by omega, _, _, _, _, _, rfl, rfl, Or.inr ⟨nI_m1 (by omega), rfl⟩, hp1, hm1, hQ2⟩
      · rw [if_neg e, if_neg e]
        exact ⟨_, _, rfl, rfl, by omega, b, u, v, gi, ri, rfl, rfl, hb, hpE, hmE, hQi⟩
    · intro s t hI
      obtain ⟨-, b, u, v, gi, ri, rfl, rfl, hb, hpE, hmE, hQi⟩ := hI
      have hQ14 := Q14_P hpE hmE hQ
      have h7 : gi 14 7 = nI n := hQ14.2.2.2.1
      have h17 : ri 0 17 = nI n := hQ14.2.2.2.2.1
      refine ⟨(b, gi), (b, ri), ?_, ?_, rfl, hpE, hmE⟩
      · show bNt_keepAway_28 nr ln (nI c) b u (nI n) gi = _
        unfold bNt_keepAway_28
        rw [h7, if_pos (nI_le (Nat.le_refl n) (by omega))]
      · show bMo_keepAway_17 (nI c) b v (nI n) ri = _
        unfold bMo_keepAway_17
        rw [h17, if_pos (nI_le (Nat.le_refl n) (by omega))]
  obtain ⟨⟨b, gi⟩, ⟨b', ri⟩, e1, e2, eb, hpE, hmE⟩ := H
  rw [e1, e2, q_b1, q_b1]
  exact ⟨b, gi, ri, rfl, by rw [show b = b' from eb], Rel_21 hn hQ hO hpE hmE⟩
