/-! ===== nights; people as they were ===== -/
def nt_pE (b : Nat) (g g' : nt_T) : Prop := ∀ k j, ¬ nt_cS k j → (k < b ∨ b + 7 ≤ k) → g' k j = g k j
def nt_rE (r r' : nt_T) : Prop := ∀ k j, ¬ nt_mS k j → k ≠ 10 → k ≠ 11 → k ≠ 12 → ¬ (k = 0 ∧ j = 18) → r' k j = r k j
theorem pE_rf (b : Nat) (g : nt_T) : nt_pE b g g := fun _ _ _ _ => rfl
theorem rE_rf (r : nt_T) : nt_rE r r := fun _ _ _ _ _ _ _ => rfl
theorem pE_tr {b : Nat} {g g' g'' : nt_T} (h : nt_pE b g g') (h' : nt_pE b g' g'') : nt_pE b g g'' := fun k j q q2 => (h' k j q q2).trans (h k j q q2)
theorem rE_tr {g g' g'' : nt_T} (h : nt_rE g g') (h' : nt_rE g' g'') : nt_rE g g'' := fun k j a b c d e => (h' k j a b c d e).trans (h k j a b c d e)
theorem cE_p {b : Nat} {g g' : nt_T} (h : nt_cE g g') : nt_pE b g g' := fun k j q _ => h k j q
theorem mE_r {r r' : nt_T} (h : nt_mE r r') : nt_rE r r' := fun k j q _ _ _ _ => h k j q
theorem uE_r {r r' : nt_T} (h : nt_uE r r') : nt_rE r r' := mE_r (uE_m h)
theorem pE_row {b : Nat} {g g' : nt_T} (hb : b = 14 ∨ b = 21) (h : nt_pE b g g') {k : Nat} (hk : k < 8 ∨ 28 ≤ k) : g' k = g k := by
  funext j
  exact h k j (by unfold nt_cS; omega) (by omega)
theorem rE_row {r r' : nt_T} (h : nt_rE r r') {k : Nat} (hk : k ≠ 0 ∧ k ≠ 10 ∧ k ≠ 11 ∧ k ≠ 12) : r' k = r k := by
  funext j
  exact h k j (by unfold nt_mS; omega) (by omega) (by omega) (by omega) (by omega)
theorem qS_P {b m : Nat} {g r g' r' : nt_T} (hb : b = 14 ∨ b = 21) (hc : nt_pE b g g') (hm : nt_rE r r') (h : nt_qS m g r) : nt_qS m g' r' := by
  unfold nt_qS at h ⊢
  rw [pE_row hb hc (k := 1) (by omega), pE_row hb hc (k := 2) (by omega), pE_row hb hc (k := 3) (by omega), pE_row hb hc (k := 4) (by omega), pE_row hb hc (k := 5) (by omega), rE_row hm (k := 4) (by omega), rE_row hm (k := 5) (by omega), rE_row hm (k := 6) (by omega), rE_row hm (k := 7) (by omega), hm 0 11 (by unfold nt_mS; omega) (by omega) (by omega) (by omega) (by omega)]
  exact h
theorem qT_P {b nr : Nat} {ln : Nat → Nat} {g r g' r' : nt_T} (hb : b = 14 ∨ b = 21) (hc : nt_pE b g g') (hm : nt_rE r r') (h : nt_qT nr ln g r) : nt_qT nr ln g' r' :=
  qT_F (by rw [pE_row hb hc (k := 6) (by omega)]) (fun k hk => pE_row hb hc (by omega)) (rE_row hm (by omega)) (rE_row hm (by omega)) (hm 0 3 (by unfold nt_mS; omega) (by omega) (by omega) (by omega) (by omega)) (hm 0 4 (by unfold nt_mS; omega) (by omega) (by omega) (by omega) (by omega)) h
/-- spend, and what the reference does for it -/
theorem q_spend {b n m nr : Nat} {ln : Nat → Nat} {g r : nt_T} (hb : b = 14 ∨ b = 21) (hQ : nt_Q b n m nr ln g r) (h : Int32) {s : Nat} (hs : s < m) :
    (∃ g' r', mayB r n m h s = false ∧ fPp_spend nr ln b h (nI s) g = some ((-3 : Int32), g') ∧ nt_cE g g' ∧ fMo_teller h (nI s) r = some ((-1 : Int32), r') ∧ nt_uE r r') ∨
    (∃ p v g' r1 r', mayB r n m h s = true ∧ p < n ∧ tel (fun p => MT r n m h p s) n = nI p ∧ ¬ v = (-3 : Int32) ∧ fPp_spend nr ln b h (nI s) g = some (v, g') ∧ fMo_teller h (nI s) r = some (nI p, r1) ∧ nt_uE r r1 ∧ (∀ r0, nt_uE r r0 → ∃ r2, fMo_tellIn h (nI s) (nI p) r0 = some (v, r2) ∧ nt_Q b n m nr ln g' r2 ∧ nt_rE r r2) ∧ fMo_tellIn h (nI s) (nI p) r1 = some (v, r') ∧ nt_Q b n m nr ln g' r' ∧ nt_pE b g g' ∧ nt_rE r r') := by
  have hm := hQ.1.1
  have hn := hQ.2.2.1
  obtain ⟨g1, e1, hc1, hl⟩ := q_look hb hQ.1 hQ.2.2 h
  have hQ1 := Q_E hb hc1 (mE_rf r) hQ
  obtain ⟨v, g2, e2, hv, hF⟩ := q_firstT hb hQ1 hl hs
  have hQ2 := Q_E hb (vE_c hv) (mE_rf r) hQ1
  obtain ⟨w, r1, er, hE, hF2⟩ := q_teller hb hQ h hs
  have hwv : w = v := isF_eq hF2 hF
  subst hwv
  have hneg := isF_neg (by omega) hF
  by_cases hz : w = -1
  · left
    subst hz
    refine ⟨g2, r1, by unfold mayB; rw [decide_eq_false (hneg.mp rfl)], ?_, cE_tr hc1 (vE_c hv), er, hE⟩
    unfold fPp_spend
    rw [e1, q_b1, e2, q_b2, if_pos rfl]
  · right
    have hmay : mayB r n m h s = true := by unfold mayB; rw [decide_eq_true (Decidable.byContradiction (fun q => hz (hneg.mpr q)))]
    obtain ⟨p, hp, rfl, hM⟩ := isF_pos hF hz
    have hin := MT_in hM
    obtain ⟨g3, e3, hg3, htg⟩ := q_tellC (nr := nr) (ln := ln) hb h hQ2.2.2 hp (show s < 8 by omega)
    have hoff := cntB_off (f := inH r h) hp
    rw [hin, if_pos rfl] at hoff
    have hcc : cntB (fun q => inH r h q && !decide (q = p)) n = cntB (fun q => !decide (q = p) && inH r h q) n := cntB_congr (fun q _ => Bool.and_comm _ _)
    have hc9 : cntB (inH r h) n ≤ n := cntB_le _ _
    have key : ∀ r0, nt_uE r r0 → ∃ r2, fMo_tellIn h (nI s) (nI p) r0 = some (nI (cntB (fun q => inH r h q && !decide (q = p)) n), r2) ∧ nt_Q b n m nr ln g3 r2 ∧ nt_rE r r2 := by
      intro r0 hr0
      have hQ0 := Q_E hb (cE_rf g2) (uE_m hr0) hQ2
      obtain ⟨r2, e4, hr2, htr⟩ := q_tellM hn hQ0.2.2.2.2.1 h hp (show s < 8 by omega)
      rw [inH_E (uE_m hr0)] at e4 htr
      have hpE : nt_pE b g2 g3 := fun k j _ q => hg3 k j (by omega) (by omega)
      have hrE : nt_rE r0 r2 := fun k j _ a _ c _ => hr2 k j a c
      refine ⟨r2, e4, ⟨qS_P hb hpE hrE hQ0.1, qT_P hb hpE hrE hQ0.2.1, ?_⟩, rE_tr (uE_r hr0) hrE⟩
      exact q_toldP hb hQ0.2.2 (show s < 8 by omega) hg3 hr2 (by
        have := htg
        exact this) htr
    obtain ⟨r2, e4, hQf, hrf⟩ := key r1 hE
    refine ⟨p, nI (cntB (fun q => inH r h q && !decide (q = p)) n), g3, r1, r2, hmay, hp, (tel_eq hF).symm, ?_, ?_, er, hE, key, e4, hQf, ?_, hrf⟩
    · intro e5
      have h1 := nI_pos (n := cntB (fun q => inH r h q && !decide (q = p)) n) (by omega)
      rw [e5] at h1
      exact h1 (by decide)
    · unfold fPp_spend
      rw [e1, q_b1, e2, q_b2, if_neg hz, e3, q_b1]
      have e10 : g3 b 10 = nI (cntB (inH r h) n) := by
        rw [hg3 b 10 (by omega) (by omega)]
        exact (lk_E hb hv hl).1
      rw [e10, hoff, nI_pred, hcc]
    · exact pE_tr (cE_p hc1) (pE_tr (cE_p (vE_c hv)) (fun k j _ q => hg3 k j (by omega) (by omega)))
/-! nights -/
def STr (r : nt_T) (s : Nat) : Int32 := (fMo_stays (nI s) r).getD 0
theorem q_stays2 {m : Nat} {g r : nt_T} (h : nt_qS m g r) {s : Nat} (hs : s < m) : fSh_stays (nI s) g = some (STr r s) ∧ fMo_stays (nI s) r = some (STr r s) ∧ ∃ v, v < 40 ∧ STr r s = nI v := by
  obtain ⟨v, hv, h1, h2⟩ := q_stays h hs
  have e : STr r s = nI v := by unfold STr; rw [h2]; rfl
  rw [e]
  exact ⟨h1, h2, v, hv, rfl⟩
theorem STr_E {r r' : nt_T} (h4 : r' 4 = r 4) (h6 : r' 6 = r 6) (s : Nat) : STr r' s = STr r s := by
  unfold STr fMo_stays
  rw [h4, h6]
theorem q_forget {b : Nat} {g : nt_T} {p s : Nat} (hp : p < 9) : fPp_forget b (nI p) (nI s) g = some (nt_st g (b + 4) p (g (b + 4) p &&& (((1 : Int32) <<< (nI s &&& 31)) ^^^ (-1 : Int32)))) := by
  unfold fPp_forget
  rw [q_gd (q_in hp (by omega)), q_gd (q_in hp (by omega))]
  simp only [q_lt, nI_clamp (show p < 2 ^ 31 by omega)]
/-- heard is so much less -/
def nt_less (kh n : Nat) (f : Nat → Nat → Bool) (g g' : nt_T) : Prop := ∀ p, p < n → ∀ i, i < 32 → bt (g' kh p) i = (bt (g kh p) i && !f p i)
theorem q_sleepC {b n m : Nat} {g r : nt_T} (hb : b = 14 ∨ b = 21) (hS : nt_qS m g r) (hP : nt_qP b n g r) {w : Int32} : ∃ g', (nt_b1 (nt_it (fun z => bPp_sleep_18 b z.1 z.2) nt_fu ((0 : Int32), nt_st g b 8 w)) fun g14 => some g14) = some g' ∧ (∀ k j, k ≠ b + 4 → g' k j = nt_st g b 8 w k j) ∧ nt_less (b + 4) n (fun p i => decide (i < m) && !decide (w - STr r i < g (b + 5) (8 * p + i))) g g' := by
  have hm := hS.1
  have hn := hP.1
  have H : ∃ y, nt_it (fun z => bPp_sleep_18 b z.1 z.2) nt_fu ((0 : Int32), nt_st g b 8 w) = some y ∧ ((∀ k j, k ≠ b + 4 → y k j = nt_st g b 8 w k j) ∧ nt_less (b + 4) n (fun p i => decide (i < m) && !decide (w - STr r i < g (b + 5) (8 * p + i))) g y) := by
    refine q_loop (fun k st => ∃ g1, st = (nI k, g1) ∧ (∀ k j, k ≠ b + 4 → g1 k j = nt_st g b 8 w k j) ∧ nt_less (b + 4) n (fun p i => decide (i < k) && !decide (w - STr r i < g (b + 5) (8 * p + i))) g g1) _ m (by omega) ⟨_, rfl, fun _ _ _ => rfl, fun p hp i hi => by rw [st_slot _ _ (by omega)]; simp⟩ ?_ ?_
    · intro k st hk hI
      obtain ⟨g1, rfl, hE, hT⟩ := hI
      left
      have e1 : g1 1 = g 1 := by funext j; rw [hE 1 j (by omega), st_slot _ _ (by omega)]
      have e2 : g1 2 = g 2 := by funext j; rw [hE 2 j (by omega), st_slot _ _ (by omega)]
      have e4 : g1 4 = g 4 := by funext j; rw [hE 4 j (by omega), st_slot _ _ (by omega)]
      have es : fSh_stays (nI k) g1 = some (STr r k) := by
        rw [← (q_stays2 hS hk).1]
        unfold fSh_stays
        rw [e2, e4]
      show ∃ s', bPp_sleep_18 b (nI k) g1 = some (.inl s') ∧ _
      unfold bPp_sleep_18
      rw [e1, hS.2.1, if_neg (nI_ge hk (by omega)), es, q_b1]
      simp only [q_lt]
      have e8 : g1 b 8 = w := by rw [hE b 8 (by omega), st_eq]
      rw [e8]
      have H2 : ∃ y, nt_it (fun z => bPp_sleep_45 b (nI k) (w - STr r k) z.1 z.2) nt_fu ((0 : Int32), g1) = some y ∧ ((∀ k j, k ≠ b + 4 → y k j = nt_st g b 8 w k j) ∧ nt_less (b + 4) n (fun p i => decide (i < k + 1) && !decide (w - STr r i < g (b + 5) (8 * p + i))) g y) := by
        refine q_loop (fun j st => ∃ g2, st = (nI j, g2) ∧ (∀ k j, k ≠ b + 4 → g2 k j = nt_st g b 8 w k j) ∧ nt_less (b + 4) n (fun p i => (decide (i < k) || (decide (i = k) && decide (p < j))) && !decide (w - STr r i < g (b + 5) (8 * p + i))) g g2) _ n (by omega) ⟨g1, rfl, hE, fun p hp i hi => by rw [hT p hp i hi]; simp⟩ ?_ ?_
        · intro j st hj hI
          obtain ⟨g2, rfl, hE2, hT2⟩ := hI
          left
          show ∃ s', bPp_sleep_45 b (nI k) (w - STr r k) (nI j) g2 = some (.inl s') ∧ _
          unfold bPp_sleep_45
          rw [hE2 b 7 (by omega), st_slot _ _ (by omega), hP.2.1, if_neg (nI_ge hj (by omega)), (q_ix (show j < 9 by omega) (show k < 8 by omega)).1, nI_clamp (show 8 * j + k < 2 ^ 31 by omega), q_gd (q_in (show 8 * j + k < 72 by omega) (by omega)), hE2 (b + 5) _ (by omega), st_slot _ _ (by omega)]
          simp only [q_lt, nI_1]
          by_cases hc : w - STr r k < g (b + 5) (8 * j + k)
          · rw [if_pos hc]
            refine ⟨_, rfl, g2, rfl, hE2, fun p hp i hi => ?_⟩
            rw [hT2 p hp i hi]
            try dsimp only
            by_cases e : i = k ∧ p = j
            · obtain ⟨rfl, rfl⟩ := e
              simp [hc]
            · by_cases e2 : i = k
              · subst e2
                rw [show decide (p < j + 1) = decide (p < j) from decide_eq_decide.mpr (by omega)]
              · simp [e2]
          · rw [if_neg hc, q_forget (show j < 9 by omega), q_b1]
            refine ⟨_, rfl, _, rfl, fun k' j' h1 => by rw [st_slot _ _ (Or.inl h1), hE2 k' j' h1], fun p hp i hi => ?_⟩
            by_cases ep : p = j
            · subst ep
              rw [st_eq, q_clr _ (show k < 32 by omega) hi, hT2 p hp i hi]
              try dsimp only
              by_cases e2 : i = k
              · subst e2; simp [hc]
              · simp [e2]
            · rw [st_slot _ _ (Or.inr ep), hT2 p hp i hi]
              try dsimp only
              rw [show decide (p < j + 1) = decide (p < j) from decide_eq_decide.mpr (by omega)]
        · intro st hI
          obtain ⟨g2, rfl, hE2, hT2⟩ := hI
          refine ⟨g2, ?_, hE2, fun p hp i hi => ?_⟩
          · show bPp_sleep_45 b (nI k) (w - STr r k) (nI n) g2 = _
            unfold bPp_sleep_45
            rw [hE2 b 7 (by omega), st_slot _ _ (by omega), hP.2.1, if_pos (nI_le (Nat.le_refl n) (by omega))]
          · rw [hT2 p hp i hi]
            try dsimp only
            have e : (decide (i < k) || (decide (i = k) && decide (p < n))) = decide (i < k + 1) := by
              rw [decide_eq_true hp, Bool.and_true]
              by_cases q1 : i < k
              · rw [decide_eq_true q1, decide_eq_true (show i < k + 1 by omega)]; rfl
              · by_cases q2 : i = k
                · rw [decide_eq_true q2, decide_eq_true (show i < k + 1 by omega), Bool.or_true]
                · rw [decide_eq_false q1, decide_eq_false q2, decide_eq_false (show ¬ i < k + 1 by omega)]; rfl
            rw [e]
      obtain ⟨g2, e2, hE2, hT2⟩ := H2
      rw [e2, q_b1, nI_1]
      exact ⟨_, rfl, g2, rfl, hE2, hT2⟩
    · intro st hI
      obtain ⟨g1, rfl, hE, hT⟩ := hI
      refine ⟨g1, ?_, hE, hT⟩
      show bPp_sleep_18 b (nI m) g1 = _
      unfold bPp_sleep_18
      rw [hE 1 4 (by omega), st_slot _ _ (by omega), hS.2.1, if_pos (nI_le (Nat.le_refl m) (by omega))]
  obtain ⟨y, hy, hE, hT⟩ := H
  rw [hy, q_b1]
  exact ⟨y, rfl, hE, hT⟩
theorem q_passM {n m : Nat} {g r : nt_T} (hS : nt_qS m g r) (hn : n ≤ 9) (h17 : r 0 17 = nI n) (w : Int32) : ∃ r', jMo_pass_23 w r = some (w, r') ∧ (∀ k j, k ≠ 10 → r' k j = nt_st r 0 18 w k j) ∧ nt_less 10 n (fun p i => decide (i < m) && !decide (w - r 12 (8 * p + i) < STr r i)) r r' := by
  have hm := hS.1
  unfold jMo_pass_23
  simp only [q_lt]
  have H : ∃ y, nt_it (fun z => bMo_pass_28 z.1 z.2) nt_fu ((0 : Int32), nt_st r 0 18 w) = some y ∧ ((∀ k j, k ≠ 10 → y k j = nt_st r 0 18 w k j) ∧ nt_less 10 n (fun p i => decide (i < m) && !decide (w - r 12 (8 * p + i) < STr r i)) r y) := by
    refine q_loop (fun k st => ∃ r1, st = (nI k, r1) ∧ (∀ k j, k ≠ 10 → r1 k j = nt_st r 0 18 w k j) ∧ nt_less 10 n (fun p i => decide (p < k) && (decide (i < m) && !decide (w - r 12 (8 * p + i) < STr r i))) r r1) _ n (by omega) ⟨_, rfl, fun _ _ _ => rfl, fun p hp i hi => by rw [st_slot _ _ (by omega)]; simp⟩ ?_ ?_
    · intro k st hk hI
      obtain ⟨r1, rfl, hE, hT⟩ := hI
      left
      show ∃ s', bMo_pass_28 (nI k) r1 = some (.inl s') ∧ _
      unfold bMo_pass_28
      rw [hE 0 17 (by omega), st_slot _ _ (by omega), h17, if_neg (nI_ge hk (by omega))]
      simp only [q_lt]
      have H2 : ∃ y, nt_it (fun z => bMo_pass_38 (nI k) z.1 z.2) nt_fu ((0 : Int32), r1) = some y ∧ ((∀ k j, k ≠ 10 → y k j = nt_st r 0 18 w k j) ∧ nt_less 10 n (fun p i => decide (p < k + 1) && (decide (i < m) && !decide (w - r 12 (8 * p + i) < STr r i))) r y) := by
        refine q_loop (fun j st => ∃ r2, st = (nI j, r2) ∧ (∀ k j, k ≠ 10 → r2 k j = nt_st r 0 18 w k j) ∧ nt_less 10 n (fun p i => (decide (p < k) || (decide (p = k) && decide (i < j))) && (decide (i < m) && !decide (w - r 12 (8 * p + i) < STr r i))) r r2) _ m (by omega) ⟨r1, rfl, hE, fun p hp i hi => by rw [hT p hp i hi]; simp⟩ ?_ ?_
        · intro j st hj hI
          obtain ⟨r2, rfl, hE2, hT2⟩ := hI
          left
          have e4 : r2 4 = r 4 := by funext j; rw [hE2 4 j (by omega), st_slot _ _ (by omega)]
          have e6 : r2 6 = r 6 := by funext j; rw [hE2 6 j (by omega), st_slot _ _ (by omega)]
          have es : fMo_stays (nI j) r2 = some (STr r j) := by
            rw [← (q_stays2 hS hj).2.1]
            unfold fMo_stays
            rw [e4, e6]
          show ∃ s', bMo_pass_38 (nI k) (nI j) r2 = some (.inl s') ∧ _
          unfold bMo_pass_38
          rw [hE2 0 11 (by omega), st_slot _ _ (by omega), hS.2.2.1, if_neg (nI_ge hj (by omega)), (q_ix (show k < 9 by omega) (show j < 8 by omega)).2, nI_clamp (show 8 * k + j < 2 ^ 31 by omega), q_gd (q_in (show 8 * k + j < 72 by omega) (by omega)), es, q_b1, hE2 12 _ (by omega), st_slot _ _ (by omega), hE2 0 18 (by omega), st_eq]
          simp only [q_lt, nI_1]
          by_cases hc : w - r 12 (8 * k + j) < STr r j
          · rw [if_pos hc]
            refine ⟨_, rfl, r2, rfl, hE2, fun p hp i hi => ?_⟩
            rw [hT2 p hp i hi]
            try dsimp only
            by_cases e : p = k ∧ i = j
            · obtain ⟨rfl, rfl⟩ := e
              simp [hc]
            · by_cases e2 : p = k
              · subst e2
                rw [show decide (i < j + 1) = decide (i < j) from decide_eq_decide.mpr (by omega)]
              · simp [e2]
          · rw [if_neg hc, q_gd (q_in (show k < 9 by omega) (by omega)), q_gd (q_in (show k < 9 by omega) (by omega)), nI_clamp (show k < 2 ^ 31 by omega)]
            refine ⟨_, rfl, _, rfl, fun k' j' h1 => by rw [st_slot _ _ (Or.inl h1), hE2 k' j' h1], fun p hp i hi => ?_⟩
            by_cases ep : p = k
            · subst ep
              rw [st_eq, q_clr _ (show j < 32 by omega) hi, hT2 p hp i hi]
              try dsimp only
              by_cases e2 : i = j
              · subst e2; simp [hc, hj]
              · rw [show decide (i < j + 1) = decide (i < j) from decide_eq_decide.mpr (by omega)]
                simp [e2]
            · rw [st_slot _ _ (Or.inr ep), hT2 p hp i hi]
              try dsimp only
              simp [ep]
        · intro st hI
          obtain ⟨r2, rfl, hE2, hT2⟩ := hI
          refine ⟨r2, ?_, hE2, fun p hp i hi => ?_⟩
          · show bMo_pass_38 (nI k) (nI m) r2 = _
            unfold bMo_pass_38
            rw [hE2 0 11 (by omega), st_slot _ _ (by omega), hS.2.2.1, if_pos (nI_le (Nat.le_refl m) (by omega))]
          · rw [hT2 p hp i hi]
            try dsimp only
            by_cases q1 : p < k
            · rw [decide_eq_true q1, decide_eq_true (show p < k + 1 by omega)]; simp
            · by_cases q2 : p = k
              · rw [decide_eq_true q2, decide_eq_true (show p < k + 1 by omega), decide_eq_false q1]
                cases decide (i < m) <;> simp
              · rw [decide_eq_false q1, decide_eq_false q2, decide_eq_false (show ¬ p < k + 1 by omega)]; simp
      obtain ⟨r2, e2, hE2, hT2⟩ := H2
      rw [e2, q_b1, nI_1]
      exact ⟨_, rfl, r2, rfl, hE2, hT2⟩
    · intro st hI
      obtain ⟨r1, rfl, hE, hT⟩ := hI
      refine ⟨r1, ?_, hE, fun p hp i hi => ?_⟩
      · show bMo_pass_28 (nI n) r1 = _
        unfold bMo_pass_28
        rw [hE 0 17 (by omega), st_slot _ _ (by omega), h17, if_pos (nI_le (Nat.le_refl n) (by omega))]
      · rw [hT p hp i hi]
        dsimp only
        rw [decide_eq_true hp, Bool.true_and]
  obtain ⟨y, hy, hE, hT⟩ := H
  rw [hy, q_b1, hE 0 18 (by omega), st_eq]
  exact ⟨y, rfl, hE, hT⟩
theorem q_night {b t : Nat} {g r : nt_T} (h8 : g b 8 = r 0 18) (et : r 0 18 = nI t) (ht : t < 1000) : ∃ t', t' < 1000 ∧ nt_min (999 : Int32) (g b 8 + (1 : Int32)) = nI t' ∧ fMo_pass r = jMo_pass_23 (nI t') r := by
  have e999 : (999 : Int32) = nI 999 := rfl
  unfold nt_min fMo_pass
  rw [h8, et, nI_1]
  by_cases q : 999 ≤ t
  · refine ⟨999, by omega, ?_, ?_⟩
    · have q2 : ¬ nI (t + 1) < (999 : Int32) := fun a => by
        have := (nI_ltI (a := t + 1) (b := 999) (by omega) (by omega)).mp a
        omega
      rw [if_neg q2]
      exact e999
    · have q2 : (999 : Int32) ≤ nI t := (nI_leI (a := 999) (b := t) (by omega) (by omega)).mpr q
      rw [if_pos q2, e999]
  · have q3 : ¬ (999 : Int32) ≤ nI t := fun a => q ((nI_leI (a := 999) (b := t) (by omega) (by omega)).mp a)
    rw [if_neg q3]
    refine ⟨t + 1, by omega, ?_, rfl⟩
    by_cases q4 : nI (t + 1) < (999 : Int32)
    · rw [if_pos q4]
    · rw [if_neg q4]
      have h5 : ¬ t + 1 < 999 := fun a => q4 ((nI_ltI (a := t + 1) (b := 999) (by omega) (by omega)).mpr a)
      have h6 : t + 1 = 999 := by omega
      rw [h6]
      exact e999
/-- a NIGHT passes: both -/
theorem q_pass {b n m nr : Nat} {ln : Nat → Nat} {g r : nt_T} (hb : b = 14 ∨ b = 21) (hQ : nt_Q b n m nr ln g r) : ∃ v g' r', fPp_sleep b g = some g' ∧ fMo_pass r = some (v, r') ∧ g' b 8 = v ∧ nt_Q b n m nr ln g' r' ∧ nt_pE b g g' ∧ nt_rE r r' := by
  obtain ⟨hS, hT, hP⟩ := id hQ
  have hm := hS.1
  obtain ⟨hn, h7, h17, h8, h9, ⟨t, ht, et⟩, hq⟩ := id hP
  obtain ⟨t', ht', ec, em⟩ := q_night h8 et ht
  obtain ⟨g', eg, hgE, hgT⟩ := q_sleepC hb hS hP (w := nI t')
  obtain ⟨r', er, hrE, hrT⟩ := q_passM hS hn h17 (nI t')
  have hpE : nt_pE b g g' := fun k j _ q => by rw [hgE k j (by omega), st_slot _ _ (by omega)]
  have hrE2 : nt_rE r r' := fun k j _ a _ _ d => by rw [hrE k j a, st_slot _ _ (by omega)]
  refine ⟨nI t', g', r', ?_, em.trans er, by rw [hgE b 8 (by omega), st_eq], ⟨qS_P hb hpE hrE2 hS, qT_P hb hpE hrE2 hT, ?_⟩, hpE, hrE2⟩
  · unfold fPp_sleep
    rw [ec, q_lt]
    exact eg
  · refine ⟨hn, ?_, ?_, ?_, ?_, ?_, fun p hp => ?_⟩
    · rw [hgE b 7 (by omega), st_slot _ _ (by omega)]; exact h7
    · rw [hrE 0 17 (by omega), st_slot _ _ (by omega)]; exact h17
    · rw [hgE b 8 (by omega), st_eq, hrE 0 18 (by omega), st_eq]
    · rw [hgE b 9 (by omega), st_slot _ _ (by omega), hrE 0 4 (by omega), st_slot _ _ (by omega)]; exact h9
    · rw [hrE 0 18 (by omega), st_eq]; exact ⟨t', ht', rfl⟩
    · obtain ⟨a1, a2, a3, a4, a5, a6, a7, ⟨x, hx, ex⟩, a9⟩ := hq p hp
      have eqh : g' (b + 4) p = r' 10 p := by
        refine b_ext (fun i hi => ?_)
        rw [hgT p hp i hi, hrT p hp i hi, a4]
        dsimp only
        cases hbt : bt (r 10 p) i with
        | false => rw [Bool.false_and, Bool.false_and]
        | true =>
          by_cases him : i < m
          · obtain ⟨b1, u, hu, eu⟩ := a9 i (by omega) hbt
            obtain ⟨v, hv, ev⟩ := (q_stays2 hS him).2.2
            rw [b1, eu, ev]
            have e1 : (nI t' - nI v < nI u) ↔ (nI t' - nI u < nI v) := by
              rw [Int32.lt_iff_toInt_lt, Int32.lt_iff_toInt_lt, pk_sub_toInt (by omega) (by omega), pk_sub_toInt (by omega) (by omega), nI_toInt (by omega), nI_toInt (by omega)]
              omega
            rw [show decide (nI t' - nI v < nI u) = decide (nI t' - nI u < nI v) from decide_eq_decide.mpr e1]
          · rw [decide_eq_false him, Bool.false_and, Bool.false_and]
      have hlow : ∀ i, i < 32 → bt (r' 10 p) i = true → bt (r 10 p) i = true := by
        intro i hi hb2
        rw [hrT p hp i hi] at hb2
        rw [Bool.and_eq_true] at hb2
        exact hb2.1
      unfold nt_q1
      rw [eqh, hgE (b + 1) p (by omega), st_slot _ _ (by omega), hgE (b + 2) p (by omega), st_slot _ _ (by omega), hgE (b + 3) p (by omega), st_slot _ _ (by omega), hrE 11 p (by omega), st_slot _ _ (by omega), hrE 8 p (by omega), st_slot _ _ (by omega), hrE 9 p (by omega), st_slot _ _ (by omega)]
      refine ⟨a1, a2, a3, rfl, a5, a6, a7, q_byte (k := 8) (by omega) (fun i h1 h2 => ?_), fun s hs hbt => ?_⟩
      · cases hb2 : bt (r' 10 p) i with
        | false => rfl
        | true =>
          have := hlow i h2 hb2
          rw [ex, q_small 8 (by omega) x (by omega) i h2 h1] at this
          cases this
      · rw [hgE (b + 5) _ (by omega), st_slot _ _ (by omega), hrE 12 _ (by omega), st_slot _ _ (by omega)]
        exact a9 s hs (hlow s (by omega) hbt)
