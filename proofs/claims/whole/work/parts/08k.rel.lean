/-! ===== the relation; calls that only read, evenings ===== -/
def nt_qR (g r : nt_T) : Prop := ∃ k, k ≤ 160 ∧ g 10 1 = nI k ∧ r 0 6 = nI k ∧ ∀ i, i < k → g 11 i = r 3 i ∧ ∃ c, c < 256 ∧ r 3 i = nI c
def nt_qI (n nr : Nat) (g r : nt_T) : Prop := (g 0 8 = 0 ∧ r 0 44 = -1) ∨ (g 0 8 = 1 ∧ ∃ n0, n0 ≤ n ∧ r 0 44 = nI n0 ∧ g 28 7 = nI n0 ∧ g 28 8 = r 0 45 ∧ g 28 9 = r 0 46 ∧ (∃ t, t < 1000 ∧ r 0 45 = nI t) ∧ (∃ t, t < nr ∧ r 0 46 = nI t) ∧ ∀ p, p < n0 → g 29 p = r 19 p ∧ g 32 p = r 18 p ∧ (r 19 p = -1 ∨ ∃ h, h < 4 ∧ r 19 p = nI h) ∧ (∃ x, x < 256 ∧ r 18 p = nI x) ∧ ∀ s, s < 8 → bt (r 18 p) s = true → g 33 (8 * p + s) = r 20 (8 * p + s) ∧ ∃ t, t < 1000 ∧ r 20 (8 * p + s) = nI t)
def nt_qH (g r : nt_T) : Prop := ∀ c, c < 4 → (g 44 c = -1 ∧ r 21 c = 0) ∨ (∃ k N, k < 3 ∧ N ≤ 40 ∧ g 44 c = nI k ∧ r 21 c = 1 ∧ r 22 c = nI k ∧ g 45 c = nI N ∧ r 23 c = nI N ∧ ∀ i, i < N → g 46 (40 * c + i) = r 24 (40 * c + i))
def nt_O (n nr : Nat) (g r : nt_T) : Prop := nt_qR g r ∧ nt_qI n nr g r ∧ nt_qH g r
/-- the class's heap and the reference's, between two calls: nr texts, their codes' lengths ln -/
def nt_Rel (nr : Nat) (ln : Nat → Nat) (g r : nt_T) : Prop := ∃ m n, n ≤ 8 ∧ nt_Q 14 n m nr ln g r ∧ nt_O n nr g r
theorem O_P {b n nr : Nat} {g r g' r' : nt_T} (hb : b = 14 ∨ b = 21) (hc : nt_pE b g g') (hm : nt_rE r r') (h : nt_O n nr g r) : nt_O n nr g' r' := by
  have f : ∀ j, 34 ≤ j → ¬ (j = 130 ∨ j = 230) → j ≠ 34 → r' 0 j = r 0 j := fun j h1 h2 h3 => hm 0 j (by unfold nt_mS; omega) (by omega) (by omega) (by omega) (by omega)
  unfold nt_O nt_qR nt_qI nt_qH at h ⊢
  rw [pE_row hb hc (k := 0) (by omega), hc 10 1 (by unfold nt_cS; omega) (by omega), show g' 11 = g 11 from funext (fun j => hc 11 j (by unfold nt_cS; omega) (by omega)), pE_row hb hc (k := 28) (by omega), pE_row hb hc (k := 29) (by omega), pE_row hb hc (k := 32) (by omega), pE_row hb hc (k := 33) (by omega), pE_row hb hc (k := 44) (by omega), pE_row hb hc (k := 45) (by omega), pE_row hb hc (k := 46) (by omega), hm 0 6 (by unfold nt_mS; omega) (by omega) (by omega) (by omega) (by omega), f 44 (by omega) (by omega) (by omega), f 45 (by omega) (by omega) (by omega), f 46 (by omega) (by omega) (by omega), rE_row hm (k := 3) (by omega), rE_row hm (k := 18) (by omega), rE_row hm (k := 19) (by omega), rE_row hm (k := 20) (by omega), rE_row hm (k := 21) (by omega), rE_row hm (k := 22) (by omega), rE_row hm (k := 23) (by omega), rE_row hm (k := 24) (by omega)]
  exact h
theorem Rel_E {nr : Nat} {ln : Nat → Nat} {g r g' r' : nt_T} (hc : nt_cE g g') (hm : nt_mE r r') (h : nt_Rel nr ln g r) : nt_Rel nr ln g' r' := by
  obtain ⟨m, n, hn, hQ, hO⟩ := h
  exact ⟨m, n, hn, Q_E (Or.inl rfl) hc hm hQ, O_P (b := 14) (Or.inl rfl) (cE_p hc) (mE_r hm) hO⟩
theorem q_has {n : Nat} {g r : nt_T} (hP : nt_qP 14 n g r) (x : Int32) : fPp_has 14 x g = some (bI (nt_in x n)) ∧ fMo_isPerson x r = some (bI (nt_in x n)) := by
  have hn := hP.1
  constructor
  · unfold fPp_has
    rw [q_below (n := n) (by omega) hP.2.1, q_b1, q_gd (q_nb _)]
  · unfold fMo_isPerson
    rw [q_moin (n := n) (by omega) (by rw [hP.2.2.1]; exact q_pred n (by omega)), q_b1, q_gd (q_nb _)]
theorem st_may {nr : Nat} {ln : Nat → Nat} {g r : nt_T} (h : nt_Rel nr ln g r) (x1 : Int32) : ∃ (v : Int32) (ga : nt_T) (gb : nt_T), fNt_may nr ln x1 g = some (v, ga) ∧ fMo_may x1 r = some (v, gb) ∧ nt_Rel nr ln ga gb := by
  obtain ⟨m, n, hn, hQ, hO⟩ := id h
  unfold fNt_may fMo_may
  rw [(q_house x1 g r).1, (q_house x1 g r).2, q_b1, q_b1]
  cases nt_in x1 4
  · exact ⟨_, _, _, if_pos rfl, if_pos rfl, h⟩
  · rw [if_neg (show ¬ bI true = 0 by decide), if_neg (show ¬ bI true = 0 by decide)]
    obtain ⟨v, g1, e1, hc, hB⟩ := q_tellIn (Or.inl rfl) hQ x1
    obtain ⟨w, r1, e2, hE, hB2⟩ := q_allMay (Or.inl rfl) hQ x1
    rw [e1, e2, q_b2, q_b2, isB_eq hB hB2]
    exact ⟨_, _, _, rfl, rfl, Rel_E hc (uE_m hE) h⟩
theorem st_by {nr : Nat} {ln : Nat → Nat} {g r : nt_T} (h : nt_Rel nr ln g r) (x1 x2 : Int32) : ∃ (v : Int32) (ga : nt_T) (gb : nt_T), fNt_by nr ln x1 x2 g = some (v, ga) ∧ fMo_by x1 x2 r = some (v, gb) ∧ nt_Rel nr ln ga gb := by
  obtain ⟨m, n, hn, hQ, hO⟩ := id h
  have hm := hQ.1.1
  unfold fNt_by fMo_by
  rw [(q_house x1 g r).1, (q_house x1 g r).2, q_b1, q_b1]
  cases nt_in x1 4
  · exact ⟨_, _, _, if_pos rfl, if_pos rfl, h⟩
  · rw [if_neg (show ¬ bI true = 0 by decide), if_neg (show ¬ bI true = 0 by decide), qS_has hQ.1, qS_is hQ.1, q_b1, q_b1]
    cases hsm : nt_in x2 m
    · exact ⟨_, _, _, if_pos rfl, if_pos rfl, h⟩
    · obtain ⟨s, hs, rfl⟩ := q_in_of (by omega) hsm
      rw [if_neg (show ¬ bI true = 0 by decide), if_neg (show ¬ bI true = 0 by decide)]
      obtain ⟨v, g1, e1, hc, hF⟩ := q_byWhom (Or.inl rfl) hQ x1 hs
      obtain ⟨w, r1, e2, hE, hF2⟩ := q_teller (Or.inl rfl) hQ x1 hs
      rw [e1, e2, q_b2, q_b2, isF_eq hF hF2]
      exact ⟨_, _, _, rfl, rfl, Rel_E hc (uE_m hE) h⟩
theorem st_worth {nr : Nat} {ln : Nat → Nat} {g r : nt_T} (h : nt_Rel nr ln g r) (x1 x2 : Int32) : ∃ (v : Int64) (ga : nt_T) (gb : nt_T), fNt_worth nr ln x1 x2 g = some (v, ga) ∧ fMo_worth x1 x2 r = some (v, gb) ∧ nt_Rel nr ln ga gb := by
  obtain ⟨m, n, hn, hQ, hO⟩ := id h
  have hm := hQ.1.1
  unfold fNt_worth fMo_worth
  rw [(q_house x1 g r).1, (q_house x1 g r).2, q_b1, q_b1]
  cases nt_in x1 4
  · exact ⟨_, _, _, if_pos rfl, if_pos rfl, h⟩
  · rw [if_neg (show ¬ bI true = 0 by decide), if_neg (show ¬ bI true = 0 by decide), qS_has hQ.1, qS_is hQ.1, q_b1, q_b1]
    cases hsm : nt_in x2 m
    · exact ⟨_, _, _, if_pos rfl, if_pos rfl, h⟩
    · obtain ⟨s, hs, rfl⟩ := q_in_of (by omega) hsm
      rw [if_neg (show ¬ bI true = 0 by decide), if_neg (show ¬ bI true = 0 by decide)]
      obtain ⟨g1, e1, hc⟩ := q_worthOf (Or.inl rfl) hQ x1 hs
      obtain ⟨w, r1, e2, hE, hF⟩ := q_teller (Or.inl rfl) hQ x1 hs
      have hneg := isF_neg (by omega) hF
      rw [e1, e2, q_b2, q_b2]
      by_cases hz : w = -1
      · have : mayB r n m x1 s = false := by unfold mayB; rw [decide_eq_false (hneg.mp hz)]
        rw [if_pos hz, this]
        exact ⟨_, _, _, rfl, rfl, Rel_E hc (uE_m hE) h⟩
      · have hmay : mayB r n m x1 s = true := by unfold mayB; rw [decide_eq_true (Decidable.byContradiction (fun q => hz (hneg.mpr q)))]
        rw [if_neg hz, if_pos hmay]
        obtain ⟨p, hp, rfl, hM⟩ := isF_pos hF hz
        have hQ1 := Q_E (Or.inl rfl) (cE_rf g) (uE_m hE) hQ
        obtain ⟨r2, e3, hE2⟩ := q_worthM (h := x1) (Or.inl rfl) hQ1 hp hs
        have e5 : WO r n m x1 s = WB r x1 (cntB (inH r x1) n) p s n := by unfold WO; rw [← tel_eq hF, nI_clamp (by omega)]
        rw [WB_E (uE_m hE), inH_E (uE_m hE), ← e5] at e3
        rw [e3, q_b2]
        exact ⟨_, _, _, rfl, rfl, Rel_E hc (uE_m (uE_tr hE hE2)) h⟩
theorem st_most {nr : Nat} {ln : Nat → Nat} {g r : nt_T} (h : nt_Rel nr ln g r) (x1 x2 : Int32) : ∃ (v : Int64) (ga : nt_T) (gb : nt_T), fNt_most nr ln x1 x2 g = some (v, ga) ∧ fMo_most x1 x2 r = some (v, gb) ∧ nt_Rel nr ln ga gb := by
  obtain ⟨m, n, hn, hQ, hO⟩ := id h
  have hm := hQ.1.1
  unfold fNt_most fMo_most
  rw [(q_house x1 g r).1, (q_house x1 g r).2, q_b1, q_b1]
  cases nt_in x1 4
  · exact ⟨_, _, _, if_pos rfl, if_pos rfl, h⟩
  · rw [if_neg (show ¬ bI true = 0 by decide), if_neg (show ¬ bI true = 0 by decide), q_below (y := (2 : Int32)) (n := 2) (by omega) rfl, q_moin (n := 2) (by omega) (by decide), q_b1, q_b1]
    cases nt_in x2 2
    · exact ⟨_, _, _, if_pos rfl, if_pos rfl, h⟩
    · rw [if_neg (show ¬ bI true = 0 by decide), if_neg (show ¬ bI true = 0 by decide)]
      obtain ⟨g1, e1, hc⟩ := q_bestC (Or.inl rfl) hQ x1
      obtain ⟨r1, e2, hE, hw⟩ := q_bestM (Or.inl rfl) hQ x1
      rw [e1, e2, q_b2, q_b2]
      by_cases hz : (BS r n m x1 m).1 = -1
      · rw [if_pos hz, if_pos hz]
        exact ⟨_, _, _, rfl, rfl, Rel_E hc hE h⟩
      · rw [if_neg hz, if_neg hz]
        by_cases h2 : x2 = 0
        · rw [if_pos h2, if_pos h2]
          exact ⟨_, _, _, rfl, rfl, Rel_E hc hE h⟩
        · rw [if_neg h2, if_neg h2]
          rcases BS_in r n m x1 m with h3 | ⟨s, hs, h3, h4, h5⟩
          · exact absurd h3 hz
          · have hQ1 := Q_E (Or.inl rfl) hc (mE_rf r) hQ
            obtain ⟨g2, e3, hc2⟩ := q_worthOf (Or.inl rfl) hQ1 x1 hs
            rw [h3, e3, q_b2, if_pos h4, hw.resolve_left hz, h5]
            exact ⟨_, _, _, rfl, rfl, Rel_E (cE_tr hc hc2) hE h⟩
theorem Rel_P {nr : Nat} {ln : Nat → Nat} {g r g' r' : nt_T} {m n : Nat} (hn : n ≤ 8) (hQ : nt_Q 14 n m nr ln g' r') (hO : nt_O n nr g r) (hc : nt_pE 14 g g') (hm : nt_rE r r') : nt_Rel nr ln g' r' := ⟨m, n, hn, hQ, O_P (Or.inl rfl) hc hm hO⟩
theorem st_tell {nr : Nat} {ln : Nat → Nat} {g r : nt_T} (h : nt_Rel nr ln g r) (x1 x2 : Int32) : ∃ (v : Int32) (ga : nt_T) (gb : nt_T), fNt_tell nr ln x1 x2 g = some (v, ga) ∧ fMo_tell x1 x2 r = some (v, gb) ∧ nt_Rel nr ln ga gb := by
  obtain ⟨m, n, hn, hQ, hO⟩ := id h
  have hm := hQ.1.1
  unfold fNt_tell fMo_tell
  rw [(q_house x1 g r).1, (q_house x1 g r).2, q_b1, q_b1]
  cases nt_in x1 4
  · exact ⟨_, _, _, if_pos rfl, if_pos rfl, h⟩
  · rw [if_neg (show ¬ bI true = 0 by decide), if_neg (show ¬ bI true = 0 by decide), qS_has hQ.1, qS_is hQ.1, q_b1, q_b1]
    cases hsm : nt_in x2 m
    · exact ⟨_, _, _, if_pos rfl, if_pos rfl, h⟩
    · obtain ⟨s, hs, rfl⟩ := q_in_of (by omega) hsm
      rw [if_neg (show ¬ bI true = 0 by decide), if_neg (show ¬ bI true = 0 by decide)]
      rcases q_spend (Or.inl rfl) hQ x1 hs with ⟨g1, r1, -, e1, hc, e2, hE⟩ | ⟨p, v, g1, r1, r2, -, hp, -, -, e1, e2, hE, -, e3, hQ2, hpE, hrE⟩
      · rw [e1, e2, q_b2, q_b2, if_pos rfl]
        exact ⟨_, _, _, rfl, rfl, Rel_E hc (uE_m hE) h⟩
      · rw [e1, e2, q_b2, q_b2, if_neg (nI_m1 (by omega)), e3, q_b2]
        exact ⟨_, _, _, rfl, rfl, Rel_P hn hQ2 hO hpE hrE⟩
theorem st_pass {nr : Nat} {ln : Nat → Nat} {g r : nt_T} (h : nt_Rel nr ln g r) : ∃ (v : Int32) (ga : nt_T) (gb : nt_T), fNt_pass g = some (v, ga) ∧ fMo_pass r = some (v, gb) ∧ nt_Rel nr ln ga gb := by
  obtain ⟨m, n, hn, hQ, hO⟩ := id h
  obtain ⟨v, g1, r1, e1, e2, h8, hQ1, hpE, hrE⟩ := q_pass (Or.inl rfl) hQ
  refine ⟨v, g1, r1, ?_, e2, Rel_P hn hQ1 hO hpE hrE⟩
  unfold fNt_pass
  rw [e1, q_b1, h8]
theorem st_told {nr : Nat} {ln : Nat → Nat} {g r : nt_T} (h : nt_Rel nr ln g r) (x1 x2 x3 : Int32) : ∃ (v : Int32), fNt_told x1 x2 x3 g = some v ∧ fMo_told x1 x2 x3 r = some v ∧ nt_Rel nr ln g r := by
  obtain ⟨m, n, hn, hQ, hO⟩ := id h
  have hm := hQ.1.1
  suffices H : ∃ v, fNt_told x1 x2 x3 g = some v ∧ fMo_told x1 x2 x3 r = some v by
    obtain ⟨v, a, b⟩ := H
    exact ⟨v, a, b, h⟩
  unfold fNt_told fMo_told
  rw [qS_has hQ.1, qS_is hQ.1, q_b1, q_b1]
  cases hsm : nt_in x1 m
  · exact ⟨_, if_pos rfl, if_pos rfl⟩
  · obtain ⟨s, hs, rfl⟩ := q_in_of (by omega) hsm
    obtain ⟨a1, a2, a3, a4, -⟩ := hQ.1.2.2.2 s hs
    rw [if_neg (show ¬ bI true = 0 by decide), if_neg (show ¬ bI true = 0 by decide), q_below (y := (100 : Int32)) (n := 100) (by omega) rfl, q_moin (x := x2) (n := 6) (by omega) (by decide), q_moin (x := x3) (n := 100) (by omega) (by decide), q_b1, q_b1, q_b1]
    cases h3 : nt_in x3 100
    · rw [if_pos (show bI false = 0 from rfl)]
      cases nt_in x2 6
      · exact ⟨_, rfl, if_pos rfl⟩
      · rw [if_neg (show ¬ bI true = 0 by decide), if_pos (show bI false = 0 from rfl)]
        exact ⟨_, rfl, rfl⟩
    · obtain ⟨a, ha, rfl⟩ := q_in_of (by omega) h3
      rw [if_neg (show ¬ bI true = 0 by decide), if_neg (show ¬ bI true = 0 by decide)]
      rw [q_gd (q_in (show s < 8 by omega) (by omega)), q_gd (q_in (show s < 8 by omega) (by omega)), q_gd (q_in (show s < 8 by omega) (by omega)), q_gd (q_in (show s < 8 by omega) (by omega)), q_gd (q_in (show s < 8 by omega) (by omega)), q_gd (q_in (show s < 8 by omega) (by omega)), q_gd (q_in (show s < 8 by omega) (by omega)), q_gd (q_in (show s < 8 by omega) (by omega)), nI_clamp (show s < 2 ^ 31 by omega), a1, a2, a3, a4]
      obtain ⟨v4, -, c4, m4⟩ := q_stays hQ.1 hs
      obtain ⟨v5, -, c5, m5⟩ := q_counts hQ.1 hs ha
      rw [c4, m4, c5, m5]
      simp only [q_b1]
      cases h6 : nt_in x2 6
      · rw [if_pos (show bI false = 0 from rfl)]
        have hne : ∀ k, k < 6 → ¬ x2 = nI k := fun k hk e => by rw [e, q_in hk (by omega)] at h6; cases h6
        rw [if_neg (show ¬ x2 = (0 : Int32) from hne 0 (by omega)), if_neg (show ¬ x2 = (1 : Int32) from hne 1 (by omega)), if_neg (show ¬ x2 = (2 : Int32) from hne 2 (by omega)), if_neg (show ¬ x2 = (3 : Int32) from hne 3 (by omega)), if_neg (show ¬ x2 = (4 : Int32) from hne 4 (by omega)), if_neg (show ¬ x2 = (5 : Int32) from hne 5 (by omega))]
        exact ⟨_, rfl, rfl⟩
      · obtain ⟨k, hk, rfl⟩ := q_in_of (by omega) h6
        rw [if_neg (show ¬ bI true = 0 by decide)]
        rcases (show k = 0 ∨ k = 1 ∨ k = 2 ∨ k = 3 ∨ k = 4 ∨ k = 5 by omega) with rfl | rfl | rfl | rfl | rfl | rfl
        · exact ⟨_, rfl, rfl⟩
        · exact ⟨_, rfl, rfl⟩
        · exact ⟨_, rfl, rfl⟩
        · exact ⟨_, rfl, rfl⟩
        · exact ⟨_, rfl, rfl⟩
        · exact ⟨_, rfl, rfl⟩
theorem st_one {nr : Nat} {ln : Nat → Nat} {g r : nt_T} (h : nt_Rel nr ln g r) (x1 x2 : Int32) : ∃ (v : Int32), fNt_one x1 x2 g = some v ∧ fMo_one x1 x2 r = some v ∧ nt_Rel nr ln g r := by
  obtain ⟨m, n, hn, hQ, hO⟩ := id h
  have hm := hQ.1.1
  suffices H : ∃ v, fNt_one x1 x2 g = some v ∧ fMo_one x1 x2 r = some v by
    obtain ⟨v, a, b⟩ := H
    exact ⟨v, a, b, h⟩
  unfold fNt_one fMo_one
  rw [(q_has hQ.2.2 x1).1, (q_has hQ.2.2 x1).2, q_b1, q_b1]
  cases hsm : nt_in x1 n
  · exact ⟨_, if_pos rfl, if_pos rfl⟩
  · obtain ⟨p, hp, rfl⟩ := q_in_of (by omega) hsm
    obtain ⟨a1, a2, a3, a4, -⟩ := hQ.2.2.2.2.2.2.2.2 p hp
    have a1 : g 15 p = r 11 p := a1
    have a2 : g 16 p = r 8 p := a2
    have a3 : g 17 p = r 9 p := a3
    have a4 : g 18 p = r 10 p := a4
    have hk := q_known hQ.1 (show p < 9 by omega) r rfl rfl
    rw [if_neg (show ¬ bI true = 0 by decide), if_neg (show ¬ bI true = 0 by decide), q_moin (x := x2) (n := 5) (by omega) (by decide), q_b1]
    rw [q_gd (q_in (show p < 9 by omega) (by omega)), q_gd (q_in (show p < 9 by omega) (by omega)), q_gd (q_in (show p < 9 by omega) (by omega)), q_gd (q_in (show p < 9 by omega) (by omega)), q_gd (q_in (show p < 9 by omega) (by omega)), q_gd (q_in (show p < 9 by omega) (by omega)), q_gd (q_in (show p < 9 by omega) (by omega)), q_gd (q_in (show p < 9 by omega) (by omega)), nI_clamp (show p < 2 ^ 31 by omega), a1, a2, a3, a4, q_knows (Or.inl rfl) hQ.1 hQ.2.2 hp, hk, q_b1, q_b1]
    cases h6 : nt_in x2 5
    · rw [if_pos (show bI false = 0 from rfl)]
      have hne : ∀ k, k < 5 → ¬ x2 = nI k := fun k hk e => by rw [e, q_in hk (by omega)] at h6; cases h6
      rw [if_neg (show ¬ x2 = (0 : Int32) from hne 0 (by omega)), if_neg (show ¬ x2 = (1 : Int32) from hne 1 (by omega)), if_neg (show ¬ x2 = (2 : Int32) from hne 2 (by omega)), if_neg (show ¬ x2 = (3 : Int32) from hne 3 (by omega)), if_neg (show ¬ x2 = (4 : Int32) from hne 4 (by omega))]
      exact ⟨_, rfl, rfl⟩
    · obtain ⟨k, hk, rfl⟩ := q_in_of (by omega) h6
      rw [if_neg (show ¬ bI true = 0 by decide)]
      rcases (show k = 0 ∨ k = 1 ∨ k = 2 ∨ k = 3 ∨ k = 4 by omega) with rfl | rfl | rfl | rfl | rfl
      · exact ⟨_, rfl, rfl⟩
      · exact ⟨_, rfl, rfl⟩
      · exact ⟨_, rfl, rfl⟩
      · exact ⟨_, rfl, rfl⟩
      · exact ⟨_, rfl, rfl⟩
