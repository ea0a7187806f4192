/-! ===== drawn ===== -/
theorem q_ushr8 (v : Int32) : ∃ k, k < 2 ^ 24 ∧ nt_ushr v (8 : Int32) = nI k := by
  have h := pk_ushr v 8 8 (by decide)
  have hlt : v.toBitVec.toNat < 2 ^ 32 := v.toBitVec.isLt
  refine ⟨v.toBitVec.toNat / 2 ^ 8, by omega, ?_⟩
  unfold nt_ushr
  refine Int32.toBitVec_inj.mp (BitVec.eq_of_toNat_eq ?_)
  rw [h, pk_tn (by omega)]
theorem q_le40 (x : Int32) : nt_in x 41 = true ↔ ¬ x < 0 ∧ x ≤ 40 := by
  rw [q_in_iff (by omega), Int32.lt_iff_toInt_lt (x := x) (y := nI 41), Int32.le_iff_toInt_le]
  have h1 : (nI 41).toInt = 41 := by decide
  have h2 : (40 : Int32).toInt = 40 := by decide
  rw [h1, h2]
  constructor
  · intro h; exact ⟨h.1, by omega⟩
  · intro h; exact ⟨h.1, by omega⟩
theorem q_draw1 {n m nr : Nat} {ln : Nat → Nat} {g r : nt_T} (hQ : nt_Q 21 n m nr ln g r) (x2 x4 x5 w : Int32) : ∃ v g' r', nt_it (fun z => bNt_drawn_41 nr ln x2 x4 x5 z.1 z.2.1 z.2.2) nt_fu (w, (0 : Int32), g) = some (v, g') ∧ nt_it (fun z => bMo_drawn_36 x2 x4 x5 z.1 z.2.1 z.2.2) nt_fu (w, (0 : Int32), r) = some (v, r') ∧ nt_Q 21 n m nr ln g' r' ∧ nt_pE 21 g g' ∧ nt_rE r r' := by
  have hn9 := hQ.2.2.1
  have H : ∃ x y, nt_it (fun z => bNt_drawn_41 nr ln x2 x4 x5 z.1 z.2.1 z.2.2) nt_fu (w, (0 : Int32), g) = some x ∧ nt_it (fun z => bMo_drawn_36 x2 x4 x5 z.1 z.2.1 z.2.2) nt_fu (w, (0 : Int32), r) = some y ∧ x.1 = y.1 ∧ nt_Q 21 n m nr ln x.2 y.2 ∧ nt_pE 21 g x.2 ∧ nt_rE r y.2 := by
    refine q_both (fun p s t => ∃ u gi ri, s = (u, nI p, gi) ∧ t = (u, nI p, ri) ∧ nt_Q 21 n m nr ln gi ri ∧ nt_pE 21 g gi ∧ nt_rE r ri) _ n (by omega) ⟨w, g, r, rfl, rfl, hQ, pE_rf 21 g, rE_rf r⟩ ?_ ?_
    · intro p s t hp hI
      obtain ⟨u, gi, ri, rfl, rfl, hQi, hpE, hrE⟩ := hI
      left
      have h7 : gi 21 7 = nI n := hQi.2.2.2.1
      have h17 : ri 0 17 = nI n := hQi.2.2.2.2.1
      have hin := q_in (show p < 9 by omega) (show 9 < 2 ^ 31 by omega)
      have hcl := nI_clamp (show p < 2 ^ 31 by omega)
      have z : decide (¬ (4 : Int32) = 0) = true := by decide
      show ∃ s' t', bNt_drawn_41 nr ln x2 x4 x5 u (nI p) gi = some (.inl s') ∧ bMo_drawn_36 x2 x4 x5 u (nI p) ri = some (.inl t') ∧ _
      unfold bNt_drawn_41 bMo_drawn_36
      rw [h7, h17, if_neg (nI_ge hp (by omega)), if_neg (nI_ge hp (by omega))]
      simp only [hin, hcl, q_gt, q_lt, z, nI_1]
      obtain ⟨k, hk, ek⟩ := q_ushr8 (u * (1103515245 : Int32) + (12345 : Int32))
      have e4 : nI k - nI k / (4 : Int32) * (4 : Int32) = nI (k % 4) := pk_rem (a := k) (d := 4) (by omega) (by omega) (by omega)
      rw [ek, e4]
      have hQ1 := q_move hQi hp (w := nI (k % 4)) (Or.inr ⟨k % 4, by omega, rfl⟩)
      refine ⟨_, _, rfl, rfl, _, _, _, rfl, rfl, hQ1, pE_tr hpE (fun k j _ q => st_slot _ _ (Or.inl (by omega))), rE_tr hrE (fun k j _ _ q _ _ => st_slot _ _ (Or.inl q))⟩
    · intro s t hI
      obtain ⟨u, gi, ri, rfl, rfl, hQi, hpE, hrE⟩ := hI
      have h7 : gi 21 7 = nI n := hQi.2.2.2.1
      have h17 : ri 0 17 = nI n := hQi.2.2.2.2.1
      refine ⟨(u, gi), (u, ri), ?_, ?_, rfl, hQi, hpE, hrE⟩
      · show bNt_drawn_41 nr ln x2 x4 x5 u (nI n) gi = _
        unfold bNt_drawn_41
        rw [h7, if_pos (nI_le (Nat.le_refl n) (by omega))]
      · show bMo_drawn_36 x2 x4 x5 u (nI n) ri = _
        unfold bMo_drawn_36
        rw [h17, if_pos (nI_le (Nat.le_refl n) (by omega))]
  obtain ⟨⟨v, g'⟩, ⟨v', r'⟩, e1, e2, ev, h1, h2, h3⟩ := H
  have ev : v = v' := ev
  subst ev
  exact ⟨v, g', r', e1, e2, h1, h2, h3⟩
theorem q_draw2 {n m nr : Nat} {ln : Nat → Nat} {g r : nt_T} (hQ : nt_Q 21 n m nr ln g r) (x2 x3 x5 w : Int32) : ∃ v g' r', nt_it (fun z => bNt_drawn_87 nr ln x2 x3 x5 z.1 z.2.1 z.2.2) nt_fu (w, (0 : Int32), g) = some (v, g') ∧ nt_it (fun z => bMo_drawn_77 x2 x3 x5 z.1 z.2.1 z.2.2) nt_fu (w, (0 : Int32), r) = some (v, r') ∧ nt_Q 21 n m nr ln g' r' ∧ nt_pE 21 g g' ∧ nt_rE r r' := by
  have hn9 := hQ.2.2.1
  have hm8 := hQ.1.1
  have H : ∃ x y, nt_it (fun z => bNt_drawn_87 nr ln x2 x3 x5 z.1 z.2.1 z.2.2) nt_fu (w, (0 : Int32), g) = some x ∧ nt_it (fun z => bMo_drawn_77 x2 x3 x5 z.1 z.2.1 z.2.2) nt_fu (w, (0 : Int32), r) = some y ∧ x.1 = y.1 ∧ nt_Q 21 n m nr ln x.2 y.2 ∧ nt_pE 21 g x.2 ∧ nt_rE r y.2 := by
    refine q_both (fun p s t => ∃ u gi ri, s = (u, nI p, gi) ∧ t = (u, nI p, ri) ∧ nt_Q 21 n m nr ln gi ri ∧ nt_pE 21 g gi ∧ nt_rE r ri) _ 4 (by omega) ⟨w, g, r, rfl, rfl, hQ, pE_rf 21 g, rE_rf r⟩ ?_ ?_
    · intro p s t hp hI
      obtain ⟨u, gi, ri, rfl, rfl, hQi, hpE, hrE⟩ := hI
      left
      have h4 : ¬ (4 : Int32) ≤ nI p := nI_ge (b := 4) hp (by omega)
      show ∃ s' t', bNt_drawn_87 nr ln x2 x3 x5 u (nI p) gi = some (.inl s') ∧ bMo_drawn_77 x2 x3 x5 u (nI p) ri = some (.inl t') ∧ _
      unfold bNt_drawn_87 bMo_drawn_77
      rw [if_neg h4, if_neg h4]
      obtain ⟨g1, e1, hc1⟩ := q_bestC (Or.inr rfl) hQi (nI p)
      obtain ⟨r1, e2, hm1, -⟩ := q_bestM (Or.inr rfl) hQi (nI p)
      rw [e1, e2, q_b2, q_b2]
      have hQ1 := Q_E (Or.inr rfl) hc1 hm1 hQi
      by_cases hz : (BS ri n m (nI p) m).1 = -1
      · rw [if_pos hz, if_pos hz, q_lt, q_lt, nI_1]
        exact ⟨_, _, rfl, rfl, u, g1, r1, rfl, rfl, hQ1, pE_tr hpE (cE_p hc1), rE_tr hrE (mE_r hm1)⟩
      · rw [if_neg hz, if_neg hz]
        rcases BS_in ri n m (nI p) m with h3 | ⟨s, hs, h3, h5, -⟩
        · exact absurd h3 hz
        rw [h3]
        rcases q_spend (Or.inr rfl) hQ1 (nI p) hs with ⟨g2, r2, hno, -⟩ | ⟨q, v, g2, r2, r3, -, hq, -, hv, e3, e4, hE, -, e5, hQ2, hpE2, hrE2⟩
        · rw [mayB_E hm1, h5] at hno
          cases hno
        · rw [e3, e4, q_b2, q_b2, e5, q_b2, q_lt, q_lt, q_lt, q_lt, nI_1]
          exact ⟨_, _, rfl, rfl, u + 1, g2, r3, rfl, rfl, hQ2, pE_tr hpE (pE_tr (cE_p hc1) hpE2), rE_tr hrE (rE_tr (mE_r hm1) hrE2)⟩
    · intro s t hI
      obtain ⟨u, gi, ri, rfl, rfl, hQi, hpE, hrE⟩ := hI
      refine ⟨(u, gi), (u, ri), ?_, ?_, rfl, hQi, hpE, hrE⟩
      · show bNt_drawn_87 nr ln x2 x3 x5 u (nI 4) gi = _
        unfold bNt_drawn_87
        rw [if_pos (show (4 : Int32) ≤ nI 4 by decide)]
      · show bMo_drawn_77 x2 x3 x5 u (nI 4) ri = _
        unfold bMo_drawn_77
        rw [if_pos (show (4 : Int32) ≤ nI 4 by decide)]
  obtain ⟨⟨v, g'⟩, ⟨v', r'⟩, e1, e2, ev, h1, h2, h3⟩ := H
  have ev : v = v' := ev
  subst ev
  exact ⟨v, g', r', e1, e2, h1, h2, h3⟩
theorem st_drawn {nr : Nat} {ln : Nat → Nat} {g r : nt_T} (h : nt_Rel nr ln g r) (x1 x2 : Int32) : ∃ (v : Int32) (ga : nt_T) (gb : nt_T), fNt_drawn nr ln x1 x2 g = some (v, ga) ∧ fMo_drawn x1 x2 r = some (v, gb) ∧ nt_Rel nr ln ga gb := by
  obtain ⟨m, n, hn, hQ, hO⟩ := id h
  unfold fNt_drawn fMo_drawn
  rw [q_moin (x := x2) (n := 41) (by omega) (by decide), q_b1]
  by_cases h4 : ¬ nt_in x2 41 = true
  · have h5 : nt_in x2 41 = false := by cases q : nt_in x2 41 <;> simp_all
    rw [h5, if_pos (show bI false = 0 from rfl)]
    by_cases a1 : x2 < 0
    · rw [if_pos a1]; exact ⟨_, _, _, rfl, rfl, h⟩
    · rw [if_neg a1, if_neg (fun q => h4 ((q_le40 x2).mpr ⟨a1, q⟩))]
      exact ⟨_, _, _, rfl, rfl, h⟩
  have h4 : nt_in x2 41 = true := Decidable.byContradiction h4
  obtain ⟨a1, a2⟩ := (q_le40 x2).mp h4
  rw [h4, if_neg (show ¬ bI true = 0 by decide), if_neg a1, if_pos a2]
  obtain ⟨N, hN, rfl⟩ := q_in_of (by omega) h4
  obtain ⟨g0, e0, hQ0, hp0⟩ := q_take21 hQ
  obtain ⟨r1, ea, hla, haE⟩ := q_aside2 r
  rw [e0, ea, q_b1, q_b1]
  have H : ∃ x y, nt_it (fun z => bNt_drawn_32 nr ln (nI N) z.1 z.2.1 z.2.2.1 z.2.2.2) nt_fu (x1, (0 : Int32), (0 : Int32), g0) = some x ∧ nt_it (fun z => bMo_drawn_27 (nI N) z.1 z.2.1 z.2.2.1 z.2.2.2) nt_fu (x1, (0 : Int32), (0 : Int32), r1) = some y ∧ x.1 = y.1 ∧ nt_pE 21 g x.2 ∧ nt_rE r1 y.2 := by
    refine q_both (fun i s t => ∃ a b gi ri, s = (a, b, nI i, gi) ∧ t = (a, b, nI i, ri) ∧ nt_Q 21 n m nr ln gi ri ∧ nt_pE 21 g gi ∧ nt_rE r1 ri) _ N (by omega) ⟨x1, 0, g0, r1, rfl, rfl, Q_aE haE hQ0, hp0, rE_rf r1⟩ ?_ ?_
    · intro i s t hi hI
      obtain ⟨a, b, gi, ri, rfl, rfl, hQi, hpE, hrE⟩ := hI
      left
      show ∃ s' t', bNt_drawn_32 nr ln (nI N) a b (nI i) gi = some (.inl s') ∧ bMo_drawn_27 (nI N) a b (nI i) ri = some (.inl t') ∧ _
      unfold bNt_drawn_32 bMo_drawn_27
      rw [if_neg (nI_ge hi (by omega)), if_neg (nI_ge hi (by omega))]
      obtain ⟨v2, g2, r2, e1, e2, hQ2, hp2, hr2⟩ := q_draw1 hQi (nI N) b (nI i) a
      rw [e1, e2, q_b1, q_b1]
      dsimp only
      obtain ⟨v3, g3, r3, e3, e4, hQ3, hp3, hr3⟩ := q_draw2 hQ2 (nI N) v2 (nI i) b
      rw [e3, e4, q_b1, q_b1]
      dsimp only
      obtain ⟨v4, g4, r4, e5, e6, -, hQ4, hp4, hr4⟩ := q_pass (Or.inr rfl) hQ3
      rw [e5, e6, q_b1, q_b2, q_lt, q_lt, nI_1]
      exact ⟨_, _, rfl, rfl, _, _, g4, r4, rfl, rfl, hQ4, pE_tr hpE (pE_tr hp2 (pE_tr hp3 hp4)), rE_tr hrE (rE_tr hr2 (rE_tr hr3 hr4))⟩
    · intro s t hI
      obtain ⟨a, b, gi, ri, rfl, rfl, hQi, hpE, hrE⟩ := hI
      refine ⟨(b, gi), (b, ri), ?_, ?_, rfl, hpE, hrE⟩
      · show bNt_drawn_32 nr ln (nI N) a b (nI N) gi = _
        unfold bNt_drawn_32
        rw [if_pos (nI_le (Nat.le_refl N) (by omega))]
      · show bMo_drawn_27 (nI N) a b (nI N) ri = _
        unfold bMo_drawn_27
        rw [if_pos (nI_le (Nat.le_refl N) (by omega))]
  obtain ⟨⟨v, gi⟩, ⟨v', r2⟩, e1, e2, ev, hpE, hrE⟩ := H
  have ev : v = v' := ev
  subst ev
  obtain ⟨r3, e3, hRel⟩ := Rel_back hn hQ hO hla haE hpE hrE
  rw [e1, e2, q_b1, q_b1]
  dsimp only
  have e3 : fMo_laysBack r2 = some r3 := e3
  rw [e3, q_b1]
  exact ⟨_, _, _, rfl, rfl, hRel⟩
