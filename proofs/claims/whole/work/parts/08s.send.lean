/-! ===== send, stranger ===== -/
theorem q_sendM {n m nr : Nat} {ln : Nat → Nat} {g r : nt_T} (hQ : nt_Q 21 n m nr ln g r) {p : Nat} (hp : p < n) {h who : Int32} (hw : isB who (inH r h) n) (hin : inH r h p = true) (x2 x3 x4 x5 : Int32) : ∃ r', nt_it (fun z => bMo_send_65 (nI p) x2 x3 x4 x5 h who z.1 z.2.1 z.2.2) nt_fu ((0 : Int32), (0 : Int32), r) = some (nI (cntB (MT r n m h p) m), r') ∧ nt_uE r r' := by
  have hm := hQ.1.1
  have H : ∃ y, nt_it (fun z => bMo_send_65 (nI p) x2 x3 x4 x5 h who z.1 z.2.1 z.2.2) nt_fu ((0 : Int32), (0 : Int32), r) = some y ∧ (y.1 = nI (cntB (MT r n m h p) m) ∧ nt_uE r y.2) := by
    refine q_loop (fun s st => ∃ ri, st = (nI (cntB (MT r n m h p) s), nI s, ri) ∧ nt_uE r ri) _ m (by omega) ⟨r, rfl, uE_rf r⟩ ?_ ?_
    · intro s st hs hI
      obtain ⟨ri, rfl, huE⟩ := hI
      left
      show ∃ s', bMo_send_65 (nI p) x2 x3 x4 x5 h who (nI (cntB (MT r n m h p) s)) (nI s) ri = some (.inl s') ∧ _
      unfold bMo_send_65
      have hQi := Q_E (Or.inr rfl) (cE_rf g) (uE_m huE) hQ
      have h11 : ri 0 11 = nI m := hQi.1.2.2.1
      rw [h11, if_neg (nI_ge hs (by omega))]
      obtain ⟨r2, e2, huE2⟩ := q_mayT hQi (h := h) (who := who) (by rw [inH_E (uE_m huE)]; exact hw) hp hs (by rw [inH_E (uE_m huE)]; exact hin)
      rw [e2, q_b2, MT_E (uE_m huE)]
      have ec : cntB (MT r n m h p) (s + 1) = cntB (MT r n m h p) s + (if MT r n m h p s then 1 else 0) := rfl
      cases hM : MT r n m h p s
      · rw [hM] at ec
        rw [if_pos (show bI false = 0 from rfl), q_lt, q_lt, nI_1]
        refine ⟨_, rfl, r2, ?_, uE_tr huE huE2⟩
        rw [ec]
        show (nI _ + 0, _, _) = _
        rw [Int32.add_zero]
        rfl
      · rw [hM] at ec
        rw [if_neg (show ¬ bI true = 0 by decide), q_lt, q_lt, nI_1, nI_1]
        exact ⟨_, rfl, r2, by rw [ec]; rfl, uE_tr huE huE2⟩
    · intro st hI
      obtain ⟨ri, rfl, huE⟩ := hI
      refine ⟨(nI (cntB (MT r n m h p) m), ri), ?_, rfl, huE⟩
      show bMo_send_65 (nI p) x2 x3 x4 x5 h who (nI (cntB (MT r n m h p) m)) (nI m) ri = some (.inr (nI (cntB (MT r n m h p) m), ri))
      unfold bMo_send_65
      have hQi := Q_E (Or.inr rfl) (cE_rf g) (uE_m huE) hQ
      have h11 : ri 0 11 = nI m := hQi.1.2.2.1
      rw [h11, if_pos (nI_le (Nat.le_refl m) (by omega))]
  obtain ⟨⟨v, r'⟩, e, ev, hE⟩ := H
  exact ⟨r', by rw [e, show v = _ from ev], hE⟩
theorem st_send {nr : Nat} {ln : Nat → Nat} {g r : nt_T} (h : nt_Rel nr ln g r) (x1 x2 : Int32) : ∃ (v : Int32) (ga : nt_T) (gb : nt_T), fNt_send nr ln x1 x2 g = some (v, ga) ∧ fMo_send x1 x2 r = some (v, gb) ∧ nt_Rel nr ln ga gb := by
  obtain ⟨m, n, hn, hQ, hO⟩ := id h
  have hm8 := hQ.1.1
  unfold fNt_send fMo_send
  rw [(q_has hQ.2.2 x1).1, (q_has hQ.2.2 x1).2, q_b1, q_b1]
  cases h1 : nt_in x1 n
  · exact ⟨_, _, _, if_pos rfl, if_pos rfl, h⟩
  rw [if_neg (show ¬ bI true = 0 by decide), if_neg (show ¬ bI true = 0 by decide), q_below (y := (2 : Int32)) (n := 2) (by omega) rfl, q_moin (x := x2) (n := 2) (by omega) (by decide), q_b1, q_b1]
  cases h2 : nt_in x2 2
  · exact ⟨_, _, _, if_pos rfl, if_pos rfl, h⟩
  rw [if_neg (show ¬ bI true = 0 by decide), if_neg (show ¬ bI true = 0 by decide)]
  obtain ⟨p, hp, rfl⟩ := q_in_of (by omega) h1
  obtain ⟨g0, e0, hQ0, hp0⟩ := q_take21 hQ
  have hin := q_in (show p < 9 by omega) (show 9 < 2 ^ 31 by omega)
  have hcl := nI_clamp (show p < 2 ^ 31 by omega)
  rw [e0, q_b1]
  simp only [hin, hcl, q_gt, q_lt]
  have H : ∃ x y, nt_it (fun z => bNt_send_41 nr ln (nI p) x2 z.1 z.2.1 z.2.2.1 z.2.2.2) nt_fu ((-1 : Int32), (-1 : Int32), (0 : Int32), g0) = some x ∧ nt_it (fun z => bMo_send_37 (nI p) x2 (r 11 p) z.1 z.2.1 z.2.2.1 z.2.2.2) nt_fu ((0 : Int32), (-1 : Int32), (0 : Int32), r) = some y ∧ x.1 = y.1 ∧ x.2.1 = y.2.1 ∧ nt_pE 21 g x.2.2 ∧ nt_oE p r y.2.2 := by
    refine q_both (fun i s t => ∃ b b' u gi ri, s = (b, u, nI i, gi) ∧ t = (b', u, nI i, ri) ∧ ((i = 0 ∧ u = -1) ∨ (0 < i ∧ b' = b)) ∧ nt_pE 21 g gi ∧ nt_oE p r ri ∧ nt_Q 21 n m nr ln gi ri) _ 4 (by omega) ⟨-1, 0, -1, g0, r, rfl, rfl, Or.inl ⟨rfl, rfl⟩, hp0, fun _ _ _ _ => rfl, hQ0⟩ ?_ ?_
    · intro i s t hi hI
      obtain ⟨b, b', u, gi, ri, rfl, rfl, hb, hpE, hoE, hQi⟩ := hI
      left
      show ∃ s' t', bNt_send_41 nr ln (nI p) x2 b u (nI i) gi = some (.inl s') ∧ bMo_send_37 (nI p) x2 (r 11 p) b' u (nI i) ri = some (.inl t') ∧ _
      unfold bNt_send_41 bMo_send_37
      have h4 : ¬ (4 : Int32) ≤ nI i := nI_ge (b := 4) hi (by omega)
      rw [if_neg h4, if_neg h4]
      simp only [hin, hcl, q_gt, q_lt, nI_1]
      have hQ1 := q_move hQi hp (w := nI i) (Or.inr ⟨i, hi, rfl⟩)
      obtain ⟨vc, g2, e1, hcE, hB⟩ := q_tellBy (Or.inr rfl) hQ1 hp
      rw [st_eq] at hB
      have hB : isB vc (MT (nt_st ri 11 p (nI i)) n m (nI i) p) m := hB
      obtain ⟨who, e3, hw⟩ := q_sit hQ1.2.2.1 hQ1.2.2.2.2.1 (nI i)
      obtain ⟨r2, e4, huE⟩ := q_sendM hQ1 hp hw (by unfold inH; rw [st_eq]; exact decide_eq_true rfl) x2 (r 11 p) b' u
      rw [e1, q_b2, (isB_cnt (by omega) hB _).1, q_b1, e3, q_b1, e4, q_b1]
      have hp1 : nt_pE 21 g g2 := by
        intro k j q1 q2
        rw [hcE k j q1, st_slot _ _ (by omega)]
        exact hpE k j q1 q2
      have ho1 : nt_oE p r r2 := by
        intro k j q1 q2
        rw [uE_m huE k j q1, st_slot _ _ (by omega)]
        exact hoE k j q1 q2
      have hQ2 := Q_E (Or.inr rfl) hcE (uE_m huE) hQ1
      have hk := cntB_le (MT (nt_st ri 11 p (nI i)) n m (nI i) p) m
      dsimp only
      by_cases hle : nI (cntB (MT (nt_st ri 11 p (nI i)) n m (nI i) p) m) ≤ u
      · have hi0 : 0 < i ∧ b' = b := by
          rcases hb with ⟨-, h⟩ | h
          · rw [h, Int32.le_iff_toInt_le, show (-1 : Int32).toInt = -1 by decide, nI_toInt (by omega)] at hle
            omega
          · exact h
        rw [if_pos hle, if_pos hle]
        exact ⟨_, _, rfl, rfl, _, _, _, _, _, rfl, rfl, Or.inr ⟨by omega, hi0.2⟩, hp1, ho1, hQ2⟩
      · rw [if_neg hle, if_neg hle]
        exact ⟨_, _, rfl, rfl, _, _, _, _, _, rfl, rfl, Or.inr ⟨by omega, rfl⟩, hp1, ho1, hQ2⟩
    · intro s t hI
      obtain ⟨b, b', u, gi, ri, rfl, rfl, hb, hpE, hoE, hQi⟩ := hI
      have hb : b' = b := by
        rcases hb with h | h
        · exact absurd h.1 (by omega)
        · exact h.2
      refine ⟨(b, u, gi), (b', u, ri), ?_, ?_, hb.symm, rfl, hpE, hoE⟩
      · show bNt_send_41 nr ln (nI p) x2 b u (nI 4) gi = _
        unfold bNt_send_41
        rw [if_pos (show (4 : Int32) ≤ nI 4 by decide)]
      · show bMo_send_37 (nI p) x2 (r 11 p) b' u (nI 4) ri = _
        unfold bMo_send_37
        rw [if_pos (show (4 : Int32) ≤ nI 4 by decide)]
  obtain ⟨⟨b, u, gi⟩, ⟨b', u', ri⟩, e1, e2, eb, eu, hpE, hoE⟩ := H
  have eb : b = b' := eb
  have eu : u = u' := eu
  subst eb eu
  rw [e1, e2, q_b1, q_b1]
  show ∃ (v : Int32) (ga gb : nt_T), (if x2 = 0 then some (b, gi) else some (u, gi)) = some (v, ga) ∧ (if x2 = 0 then some (b, nt_st ri 11 p (r 11 p)) else some (u, nt_st ri 11 p (r 11 p))) = some (v, gb) ∧ nt_Rel nr ln ga gb
  have fin := Rel_21 hn hQ hO hpE (oE_back hoE rfl)
  by_cases hz : x2 = 0
  · rw [if_pos hz, if_pos hz]
    exact ⟨_, _, _, rfl, rfl, fin⟩
  · rw [if_neg hz, if_neg hz]
    exact ⟨_, _, _, rfl, rfl, fin⟩
theorem Rel_n {n m nr : Nat} {ln : Nat → Nat} {g r g' r' : nt_T} (hn : n ≤ 8) (hQ : nt_Q 14 n m nr ln g r) (hO : nt_O n nr g r) (hc : nt_pE 21 g g') (hr : ∀ k j, ¬ nt_mS k j → ¬ (8 ≤ k ∧ k ≤ 11 ∧ j = n) → r' k j = r k j) : nt_Rel nr ln g' r' := by
  have hm : nt_mE r (fun k j => if 8 ≤ k ∧ k ≤ 11 ∧ j = n then r k j else r' k j) := by
    intro k j q
    by_cases e : 8 ≤ k ∧ k ≤ 11 ∧ j = n
    · exact if_pos e
    · show (if 8 ≤ k ∧ k ≤ 11 ∧ j = n then r k j else r' k j) = _
      rw [if_neg e]
      exact hr k j q e
  have hQ1 := Q14_P hc hm hQ
  have hO1 := O_P (Or.inr rfl) hc (mE_r hm) hO
  refine Rel_Q hn hQ1 hO1 ?_ (fun k _ => rfl) (fun k hk => funext (fun j => by
    show r' k j = if 8 ≤ k ∧ k ≤ 11 ∧ j = n then r k j else r' k j
    rw [if_neg (by omega)]))
  obtain ⟨p1, p2, p3, p4, p5, p6, p7⟩ := hQ1.2.2
  have z : ∀ k j, k < 8 ∨ 11 < k ∨ j ≠ n → (if 8 ≤ k ∧ k ≤ 11 ∧ j = n then r k j else r' k j) = r' k j := fun k j q => if_neg (by omega)
  refine ⟨p1, p2, (z 0 17 (by omega)).symm.trans p3, p4.trans (z 0 18 (by omega)), p5.trans (z 0 4 (by omega)), by have := p6; simp only [z 0 18 (by omega)] at this; exact this, fun p hp => ?_⟩
  have := p7 p hp
  unfold nt_q1 at this ⊢
  have z12 : ∀ j, (if 8 ≤ 12 ∧ 12 ≤ 11 ∧ j = n then r 12 j else r' 12 j) = r' 12 j := fun j => z 12 j (by omega)
  simp only [z 11 p (by omega), z 8 p (by omega), z 9 p (by omega), z 10 p (by omega), z12] at this
  exact this
theorem q_sit21 {n : Nat} {g r : nt_T} (h7 : g 21 7 = nI n) (hn : n ≤ 8) (x1 x2 x3 : Int32) : fPp_sit 21 x1 x2 x3 g = some (nt_st (nt_st (nt_st (nt_st (nt_st g 22 n x1) 23 n x2) 24 n x3) 25 n 0) 21 7 (nI (n + 1))) := by
  have c9 : g 21 7 < (9 : Int32) := by rw [h7]; exact (nI_ltI (a := n) (b := 9) (by omega) (by omega)).mpr (by omega)
  have hin := q_in (show n < 9 by omega) (show 9 < 2 ^ 31 by omega)
  have hcl := nI_clamp (show n < 2 ^ 31 by omega)
  unfold fPp_sit
  rw [if_pos c9]
  simp [q_lt, st_app, h7, hin, hcl, q_gt, nI_1]
theorem q_sits {n m nr : Nat} {ln : Nat → Nat} {g r : nt_T} (hQ : nt_Q 21 n m nr ln g r) (hn : n ≤ 8) {c a t : Nat} (hc : c < 4) (ha : a < 100) (ht : t < 256) : nt_Q 21 (n + 1) m nr ln (nt_st (nt_st (nt_st (nt_st (nt_st g 22 n (nI c)) 23 n (nI a)) 24 n (nI t)) 25 n 0) 21 7 (nI (n + 1))) (nt_st (nt_st (nt_st (nt_st (nt_st r 11 n (nI c)) 8 n (nI a)) 9 n (nI t)) 10 n 0) 0 17 (nI (n + 1))) := by
  refine ⟨qS_F (fun k h1 h2 => by (repeat rw [st_row _ _ _ (by omega)])) (fun k h1 h2 => by (repeat rw [st_row _ _ _ (by omega)])) (by simp [st_app]) hQ.1, qT_F (by simp [st_app]) (fun k hk => by (repeat rw [st_row _ _ _ (by omega)])) (by (repeat rw [st_row _ _ _ (by omega)])) (by (repeat rw [st_row _ _ _ (by omega)])) (by simp [st_app]) (by simp [st_app]) hQ.2.1, ?_⟩
  obtain ⟨p1, p2, p3, p4, p5, p6, p7⟩ := hQ.2.2
  refine ⟨by omega, st_eq _ _ _ _, st_eq _ _ _ _, by simp [st_app]; exact p4, by simp [st_app]; exact p5, by simp [st_app]; exact p6, fun p hp => ?_⟩
  by_cases e : p = n
  · subst e
    unfold nt_q1
    simp only [st_app]
    simp
    refine ⟨Or.inr ⟨c, hc, rfl⟩, ⟨a, ha, rfl⟩, ⟨t, ht, rfl⟩, ⟨0, by omega, rfl⟩, fun s hs hb => ?_⟩
    rw [b_0] at hb
    cases hb
  · unfold nt_q1
    simp only [st_app]
    simp [e]
    have := p7 p (by omega)
    unfold nt_q1 at this
    simp at this
    exact this
theorem st_stranger {nr : Nat} {ln : Nat → Nat} {g r : nt_T} (h : nt_Rel nr ln g r) (x1 x2 x3 : Int32) : ∃ (v : Int32) (ga : nt_T) (gb : nt_T), fNt_stranger nr ln x1 x2 x3 g = some (v, ga) ∧ fMo_stranger x1 x2 x3 r = some (v, gb) ∧ nt_Rel nr ln ga gb := by
  obtain ⟨m, n, hn, hQ, hO⟩ := id h
  have hm8 := hQ.1.1
  unfold fNt_stranger fMo_stranger
  rw [(q_house x1 g r).1, (q_house x1 g r).2, q_b1, q_b1]
  cases h1 : nt_in x1 4
  · exact ⟨_, _, _, if_pos rfl, if_pos rfl, h⟩
  rw [if_neg (show ¬ bI true = 0 by decide), if_neg (show ¬ bI true = 0 by decide), q_below (y := (100 : Int32)) (n := 100) (by omega) rfl, q_moin (x := x2) (n := 100) (by omega) (by decide), q_b1, q_b1]
  cases h2 : nt_in x2 100
  · exact ⟨_, _, _, if_pos rfl, if_pos rfl, h⟩
  rw [if_neg (show ¬ bI true = 0 by decide), if_neg (show ¬ bI true = 0 by decide), q_below (y := (256 : Int32)) (n := 256) (by omega) rfl, q_moin (x := x3) (n := 256) (by omega) (by decide), q_b1, q_b1]
  cases h3 : nt_in x3 256
  · exact ⟨_, _, _, if_pos rfl, if_pos rfl, h⟩
  rw [if_neg (show ¬ bI true = 0 by decide), if_neg (show ¬ bI true = 0 by decide)]
  obtain ⟨c, hc, rfl⟩ := q_in_of (by omega) h1
  obtain ⟨a, ha, rfl⟩ := q_in_of (by omega) h2
  obtain ⟨t, ht, rfl⟩ := q_in_of (by omega) h3
  obtain ⟨g0, e0, hQ0, hp0⟩ := q_take21 hQ
  obtain ⟨w1, r1, e1, hu1, hB1⟩ := q_allMay (Or.inl rfl) hQ (nI c)
  have hQ1 := Q_E (Or.inr rfl) (cE_rf g0) (uE_m hu1) hQ0
  have hQ2 := q_sits hQ1 hn hc ha ht
  have h17 : r1 0 17 = nI n := hQ1.2.2.2.2.1
  have h7 : g0 21 7 = nI n := hQ0.2.2.2.1
  have hin := q_in (show n < 9 by omega) (show 9 < 2 ^ 31 by omega)
  have hcl := nI_clamp (show n < 2 ^ 31 by omega)
  rw [e0, q_b1, q_sit21 (r := r) h7 hn, q_b1, e1, q_b2, (isB_cnt (by omega) hB1 _).2, q_b1]
  obtain ⟨w2, g3, e2, hc2, hB2⟩ := q_tellIn (Or.inr rfl) hQ2 (nI c)
  obtain ⟨w3, r3, e3, hu3, hB3⟩ := q_allMay (Or.inr rfl) hQ2 (nI c)
  have hX : ∀ F : Int32 → nt_T → Option (Int32 × nt_T), (nt_gd (nt_in (r1 0 17) 9) <| nt_lt (nt_st r1 11 (Int32.toNatClampNeg (r1 0 17)) (nI c)) fun g11 => nt_gd (nt_in (g11 0 17) 9) <| nt_lt (nt_st g11 8 (Int32.toNatClampNeg (g11 0 17)) (nI a)) fun g13 => nt_gd (nt_in (g13 0 17) 9) <| nt_lt (nt_st g13 9 (Int32.toNatClampNeg (g13 0 17)) (nI t)) fun g15 => nt_gd (nt_in (g15 0 17) 9) <| nt_lt (nt_st g15 10 (Int32.toNatClampNeg (g15 0 17)) (0 : Int32)) fun g17 => nt_lt (nt_st g17 0 17 ((g17 0 17) + (1 : Int32))) fun g18 => nt_b2 (fMo_allMay (nI c) g18) F) = F w3 r3 := by
    intro F
    simp only [q_lt, st_app, h17, hin, hcl, q_gt, nI_1]
    simp only [show ¬ ((0 : Nat) = 11 ∧ (17 : Nat) = n) by omega, show ¬ ((0 : Nat) = 8 ∧ (17 : Nat) = n) by omega, show ¬ ((0 : Nat) = 9 ∧ (17 : Nat) = n) by omega, show ¬ ((0 : Nat) = 10 ∧ (17 : Nat) = n) by omega, if_false, h17, hin, hcl, q_gt, nI_1]
    rw [e3, q_b2]
  rw [hX, e2, q_b2, (isB_cnt (by omega) hB2 _).1, q_b1]
  have hpE3 : nt_pE 21 g g3 := by
    intro k j q1 q2
    rw [hc2 k j q1, st_slot _ _ (Or.inl (show k ≠ 21 by omega)), st_slot _ _ (Or.inl (show k ≠ 25 by omega)), st_slot _ _ (Or.inl (show k ≠ 24 by omega)), st_slot _ _ (Or.inl (show k ≠ 23 by omega)), st_slot _ _ (Or.inl (show k ≠ 22 by omega))]
    exact hp0 k j q1 q2
  have hQ14 := Q14_P hpE3 (mE_rf r) hQ
  obtain ⟨w4, g5, e5, hc5, hB5⟩ := q_tellIn (Or.inl rfl) hQ14 (nI c)
  have hw := isB_eq hB5 hB1
  subst hw
  have hw := isB_eq hB3 hB2
  subst hw
  rw [e5, q_b2, (isB_cnt (by omega) hB5 _).1, q_b1, (isB_cnt (by omega) hB2 _).2, q_b1, q_lt]
  refine ⟨_, _, _, rfl, rfl, Rel_n hn hQ hO (pE_tr hpE3 (cE_p hc5)) (fun k j q1 q2 => ?_)⟩
  have h317 : r3 0 17 = nI (n + 1) := by
    rw [uE_m hu3 0 17 (by unfold nt_mS; omega), st_eq]
  rw [h317, nI_pred]
  by_cases e : k = 0 ∧ j = 17
  · obtain ⟨rfl, rfl⟩ := e
    rw [st_eq]
    exact (hQ.2.2.2.2.1).symm
  · rw [st_slot _ _ (by omega), uE_m hu3 k j q1, st_slot _ _ (by omega), st_slot _ _ (by omega), st_slot _ _ (by omega), st_slot _ _ (by omega), st_slot _ _ (by omega)]
    exact uE_m hu1 k j q1
