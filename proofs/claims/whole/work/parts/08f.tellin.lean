/-! ===== the class: what may be told in a house ===== -/
theorem q_tellIn {b n m nr : Nat} {ln : Nat → Nat} {g r : nt_T} (hb : b = 14 ∨ b = 21) (hQ : nt_Q b n m nr ln g r) (h : Int32) : ∃ v g', fPp_tellableIn nr ln b h g = some (v, g') ∧ nt_cE g g' ∧ isB v (mayB r n m h) m := by
  obtain ⟨hS, hT, hP⟩ := id hQ
  have hm := hS.1
  have hn := hP.1
  unfold fPp_tellableIn
  obtain ⟨g1, e1, hc1, hl⟩ := q_look hb hS hP h
  rw [e1, q_b1]
  have hQ1 := Q_E hb hc1 (mE_rf r) hQ
  have H : ∃ y, nt_it (fun z => bPp_tellableIn_9 nr ln b h z.1 z.2.1 z.2.2) nt_fu ((0 : Int32), (0 : Int32), g1) = some y ∧ (nt_vE g1 y.2 ∧ isB y.1 (mayB r n m h) m) := by
    refine q_loop (fun k st => ∃ v g2, st = (v, nI k, g2) ∧ nt_vE g1 g2 ∧ ∀ i, i < 32 → bt v i = (decide (i < m) && decide (0 < cntB (fun p => MT r n m h p i) k))) _ n (by omega) ⟨0, g1, rfl, vE_rf g1, fun i hi => by rw [b_0, cntB]; simp⟩ ?_ ?_
    · intro k st hk hI
      obtain ⟨v, g2, rfl, hv, hB⟩ := hI
      left
      have hQ2 := Q_E hb (vE_c hv) (mE_rf r) hQ1
      have hl2 := lk_E hb hv hl
      show ∃ s', bPp_tellableIn_9 nr ln b h v (nI k) g2 = some (.inl s') ∧ _
      unfold bPp_tellableIn_9
      rw [hQ2.2.2.2.1, if_neg (nI_ge hk (by omega)), q_gd (q_in (show k < 9 by omega) (by omega)), nI_clamp (show k < 2 ^ 31 by omega), (hQ2.2.2.2.2.2.2.2.2 k hk).1]
      by_cases hh : r 11 k = h
      · have hin : inH r h k = true := by unfold inH; rw [decide_eq_true hh]
        rw [if_pos hh]
        obtain ⟨w, g3, e3, hv3, hB3⟩ := q_tellOf hb hQ2 hl2 hk hin (v ^^^ (-1 : Int32))
        rw [e3, q_b2]
        simp only [q_lt, nI_1]
        refine ⟨_, rfl, _, g3, rfl, vE_tr hv hv3, fun i hi => ?_⟩
        have h3 : bt w i = (decide (i < m) && (bt (v ^^^ (-1 : Int32)) i && MT r n m h k i)) := hB3 i hi
        rw [b_or, h3, q_not _ hi, hB i hi, cntB]
        cases decide (i < m) <;> cases MT r n m h k i <;> simp
      · rw [if_neg hh]
        simp only [q_lt, nI_1]
        refine ⟨_, rfl, v, g2, rfl, hv, fun i hi => ?_⟩
        have hM : MT r n m h k i = false := by
          unfold MT inH
          rw [decide_eq_false hh, Bool.false_and]
        rw [hB i hi, cntB, hM]
        rfl
    · intro st hI
      obtain ⟨v, g2, rfl, hv, hB⟩ := hI
      have hQ2 := Q_E hb (vE_c hv) (mE_rf r) hQ1
      refine ⟨(v, g2), ?_, hv, hB⟩
      show bPp_tellableIn_9 nr ln b h v (nI n) g2 = _
      unfold bPp_tellableIn_9
      rw [hQ2.2.2.2.1, if_pos (nI_le (Nat.le_refl n) (by omega))]
  obtain ⟨y, hy, hv, hB⟩ := H
  rw [hy, q_b1]
  exact ⟨y.1, y.2, rfl, cE_tr hc1 (vE_c hv), hB⟩
theorem q_tellBy {b n m nr : Nat} {ln : Nat → Nat} {g r : nt_T} (hb : b = 14 ∨ b = 21) (hQ : nt_Q b n m nr ln g r) {p : Nat} (hp : p < n) : ∃ v g', fPp_tellableBy nr ln b (nI p) g = some (v, g') ∧ nt_cE g g' ∧ isB v (fun s => MT r n m (r 11 p) p s) m := by
  obtain ⟨hS, hT, hP⟩ := id hQ
  have hm := hS.1
  have hn := hP.1
  unfold fPp_tellableBy
  rw [q_gd (q_in (show p < 9 by omega) (by omega)), nI_clamp (show p < 2 ^ 31 by omega), (hP.2.2.2.2.2.2 p hp).1]
  obtain ⟨g1, e1, hc1, hl⟩ := q_look hb hS hP (r 11 p)
  have hQ1 := Q_E hb hc1 (mE_rf r) hQ
  have hin : inH r (r 11 p) p = true := by unfold inH; rw [decide_eq_true rfl]
  rw [e1, q_b1, qS_all hQ1.1, q_b1]
  obtain ⟨v, g2, e2, hv, hB⟩ := q_tellOf hb hQ1 hl hp hin (((1 : Int32) <<< (nI m &&& 31)) - (1 : Int32))
  rw [e2, q_b2]
  refine ⟨v, g2, rfl, cE_tr hc1 (vE_c hv), fun i hi => ?_⟩
  have h3 : bt v i = (decide (i < m) && (bt (((1 : Int32) <<< (nI m &&& 31)) - (1 : Int32)) i && MT r n m (r 11 p) p i)) := hB i hi
  rw [h3, q_all m (by omega) i hi]
  cases decide (i < m) <;> rfl
theorem q_byWhom {b n m nr : Nat} {ln : Nat → Nat} {g r : nt_T} (hb : b = 14 ∨ b = 21) (hQ : nt_Q b n m nr ln g r) (h : Int32) {s : Nat} (hs : s < m) : ∃ v g', fPp_byWhom nr ln b h (nI s) g = some (v, g') ∧ nt_cE g g' ∧ isF (fun p => MT r n m h p s) n v := by
  obtain ⟨g1, e1, hc1, hl⟩ := q_look hb hQ.1 hQ.2.2 h
  have hQ1 := Q_E hb hc1 (mE_rf r) hQ
  obtain ⟨v, g2, e2, hv, hF⟩ := q_firstT hb hQ1 hl hs
  unfold fPp_byWhom
  rw [e1, q_b1, e2, q_b2]
  exact ⟨v, g2, rfl, cE_tr hc1 (vE_c hv), hF⟩
/-- what nobody but one, who tells it, knows there -/
def unB (r : nt_T) (n m : Nat) (h : Int32) (s : Nat) : Bool := decide (0 < cntB (fun p => inH r h p && (bt (r 9 p) s && nOth r n m h p s)) n)
theorem q_unheard {b n m nr : Nat} {ln : Nat → Nat} {g r : nt_T} (hb : b = 14 ∨ b = 21) (hQ : nt_Q b n m nr ln g r) (h : Int32) : ∃ v g', fPp_unheardIn b h g = some (v, g') ∧ nt_cE g g' ∧ isB v (unB r n m h) m := by
  obtain ⟨hS, hT, hP⟩ := id hQ
  have hm := hS.1
  have hn := hP.1
  unfold fPp_unheardIn
  obtain ⟨g1, e1, hc1, hl⟩ := q_look hb hS hP h
  rw [e1, q_b1]
  have hQ1 := Q_E hb hc1 (mE_rf r) hQ
  have H : ∃ y, nt_it (fun z => bPp_unheardIn_9 b h g1 z.1 z.2) nt_fu ((0 : Int32), (0 : Int32)) = some y ∧ isB y (unB r n m h) m := by
    refine q_loop (fun k st => ∃ v, st = (v, nI k) ∧ ∀ i, i < 32 → bt v i = (decide (i < m) && decide (0 < cntB (fun p => inH r h p && (bt (r 9 p) i && nOth r n m h p i)) k))) _ n (by omega) ⟨0, rfl, fun i hi => by rw [b_0, cntB]; simp⟩ ?_ ?_
    · intro k st hk hI
      obtain ⟨v, rfl, hB⟩ := hI
      left
      show ∃ s', bPp_unheardIn_9 b h g1 v (nI k) = some (.inl s') ∧ _
      unfold bPp_unheardIn_9
      rw [hQ1.2.2.2.1, if_neg (nI_ge hk (by omega)), q_gd (q_in (show k < 9 by omega) (by omega)), q_gd (q_in (show k < 9 by omega) (by omega)), nI_clamp (show k < 2 ^ 31 by omega), (hQ1.2.2.2.2.2.2.2.2 k hk).1]
      by_cases hh : r 11 k = h
      · have hin : inH r h k = true := by unfold inH; rw [decide_eq_true hh]
        rw [if_pos hh]
        obtain ⟨E, hE, hEb⟩ := q_new hQ1.1 hn hl hk hin
        rw [hE, q_b1, (hQ1.2.2.2.2.2.2.2.2 k hk).2.2.1]
        simp only [q_lt, nI_1]
        refine ⟨_, rfl, _, rfl, fun i hi => ?_⟩
        rw [b_or, b_and, hEb i hi, hB i hi, cntB, hin]
        cases decide (i < m) <;> cases bt (r 9 k) i <;> cases nOth r n m h k i <;> simp
      · rw [if_neg hh]
        simp only [q_lt, nI_1]
        refine ⟨_, rfl, v, rfl, fun i hi => ?_⟩
        have hin : inH r h k = false := by unfold inH; rw [decide_eq_false hh]
        rw [hB i hi, cntB, hin]
        rfl
    · intro st hI
      obtain ⟨v, rfl, hB⟩ := hI
      refine ⟨v, ?_, hB⟩
      show bPp_unheardIn_9 b h g1 v (nI n) = _
      unfold bPp_unheardIn_9
      rw [hQ1.2.2.2.1, if_pos (nI_le (Nat.le_refl n) (by omega))]
  obtain ⟨y, hy, hB⟩ := H
  rw [hy, q_b1]
  exact ⟨y, g1, rfl, hc1, hB⟩
/-! ===== the reference: who sits there, who may tell, what may be told ===== -/
theorem q_sit {n : Nat} {r : nt_T} (hn : n ≤ 9) (h17 : r 0 17 = nI n) (h : Int32) : ∃ v, fMo_sitting h r = some v ∧ isB v (inH r h) n := by
  unfold fMo_sitting
  have H : ∃ y, nt_it (fun z => bMo_sitting_4 h r z.1 z.2) nt_fu ((0 : Int32), (0 : Int32)) = some y ∧ isB y (inH r h) n := by
    refine q_loop (fun k st => ∃ v, st = (v, nI k) ∧ isB v (inH r h) k) _ n (by omega) ⟨0, rfl, isB_0 _⟩ ?_ ?_
    · intro k st hk hI
      obtain ⟨v, rfl, hB⟩ := hI
      left
      show ∃ s', bMo_sitting_4 h r v (nI k) = some (.inl s') ∧ _
      unfold bMo_sitting_4
      rw [h17, if_neg (nI_ge hk (by omega)), q_gd (q_in (show k < 9 by omega) (by omega)), nI_clamp (show k < 2 ^ 31 by omega)]
      by_cases hh : r 11 k = h
      · rw [if_pos hh]
        simp only [q_lt, nI_1]
        refine ⟨_, rfl, _, rfl, fun i hi => ?_⟩
        rw [q_set _ (show k < 32 by omega) hi, hB i hi]
        by_cases e : i = k
        · subst e
          have hin : inH r h i = true := by unfold inH; rw [decide_eq_true hh]
          rw [hin]; simp
        · rw [decide_eq_false e, show decide (i < k + 1) = decide (i < k) from decide_eq_decide.mpr (by omega), Bool.or_false]
      · rw [if_neg hh]
        simp only [q_lt, nI_1]
        refine ⟨_, rfl, v, rfl, fun i hi => ?_⟩
        rw [hB i hi]
        by_cases e : i = k
        · subst e
          have hin : inH r h i = false := by unfold inH; rw [decide_eq_false hh]
          rw [hin]; simp
        · rw [show decide (i < k + 1) = decide (i < k) from decide_eq_decide.mpr (by omega)]
    · intro st hI
      obtain ⟨v, rfl, hB⟩ := hI
      refine ⟨v, ?_, hB⟩
      show bMo_sitting_4 h r v (nI n) = _
      unfold bMo_sitting_4
      rw [h17, if_pos (nI_le (Nat.le_refl n) (by omega))]
  obtain ⟨y, hy, hB⟩ := H
  rw [hy, q_b1]
  exact ⟨y, rfl, hB⟩
theorem q_knowers {n m : Nat} {g r : nt_T} (hS : nt_qS m g r) (hn : n ≤ 9) (h17 : r 0 17 = nI n) {s : Nat} (hs : s < 8) : ∃ v, fMo_knowers (nI s) r = some v ∧ isB v (fun p => bt (kn r m p) s) n := by
  unfold fMo_knowers
  have H : ∃ y, nt_it (fun z => bMo_knowers_4 (nI s) r z.1 z.2) nt_fu ((0 : Int32), (0 : Int32)) = some y ∧ isB y (fun p => bt (kn r m p) s) n := by
    refine q_loop (fun k st => ∃ v, st = (v, nI k) ∧ isB v (fun p => bt (kn r m p) s) k) _ n (by omega) ⟨0, rfl, isB_0 _⟩ ?_ ?_
    · intro k st hk hI
      obtain ⟨v, rfl, hB⟩ := hI
      left
      show ∃ s', bMo_knowers_4 (nI s) r v (nI k) = some (.inl s') ∧ _
      unfold bMo_knowers_4
      rw [h17, if_neg (nI_ge hk (by omega)), q_known hS (show k < 9 by omega) r rfl rfl, q_b1, q_tst _ (show s < 32 by omega)]
      simp only [q_lt, nI_1]
      refine ⟨_, rfl, _, rfl, fun i hi => ?_⟩
      have hB1 : bt v i = (decide (i < k) && bt (kn r m i) s) := hB i hi
      show bt (v ||| (bI (bt (kn r m k) s) <<< (nI k &&& 31))) i = (decide (i < k + 1) && bt (kn r m i) s)
      rw [b_or, hB1]
      cases hx : bt (kn r m k) s
      · rw [bI_f, show (0 : Int32) <<< (nI k &&& 31) = 0 from b_ext (fun j hj => by rw [b_shl k (by omega) 0 hj, b_0, Bool.and_false, b_0]), b_0, Bool.or_false]
        by_cases e : i = k
        · subst e; rw [hx]; simp
        · rw [show decide (i < k + 1) = decide (i < k) from decide_eq_decide.mpr (by omega)]
      · rw [bI_t, q_bit (show k < 32 by omega) hi]
        by_cases e : i = k
        · subst e; rw [hx]; simp
        · rw [decide_eq_false e, show decide (i < k + 1) = decide (i < k) from decide_eq_decide.mpr (by omega), Bool.or_false]
    · intro st hI
      obtain ⟨v, rfl, hB⟩ := hI
      refine ⟨v, ?_, hB⟩
      show bMo_knowers_4 (nI s) r v (nI n) = _
      unfold bMo_knowers_4
      rw [h17, if_pos (nI_le (Nat.le_refl n) (by omega))]
  obtain ⟨y, hy, hB⟩ := H
  rw [hy, q_b1]
  exact ⟨y, rfl, hB⟩
/-- mayTell, of one who sits among those -/
theorem q_mayT {b n m nr : Nat} {ln : Nat → Nat} {g r : nt_T} (hQ : nt_Q b n m nr ln g r) {h who : Int32} (hw : isB who (inH r h) n) {p s : Nat} (hp : p < n) (hs : s < m) (hin : inH r h p = true) : ∃ r', fMo_mayTell (nI p) (nI s) who r = some (bI (MT r n m h p s), r') ∧ nt_uE r r' := by
  obtain ⟨hS, hT, hP⟩ := id hQ
  have hm := hS.1
  have hn := hP.1
  unfold fMo_mayTell
  simp only [q_lt]
  rw [q_gd (q_in (show p < 9 by omega) (by omega)), nI_clamp (show p < 2 ^ 31 by omega)]
  simp only [q_tst1 _ (show s < 32 by omega)]
  have hMT : MT r n m h p s = (bt (r 9 p) s && (decide (2 ≤ cntB (inH r h) n) && (nOth r n m h p s && decide (VAL r 2 p s (cntB (inH r h) n) = 0)))) := by unfold MT; rw [hin, Bool.true_and]
  have hc9 : cntB (inH r h) n ≤ n := cntB_le _ _
  by_cases h1 : bt (r 9 p) s = true
  · rw [if_pos h1]
    have hoB : isB (who &&& (((1 : Int32) <<< (nI p &&& 31)) ^^^ (-1 : Int32))) (fun q => !decide (q = p) && inH r h q) n := by
      intro i hi
      show _ = (decide (i < n) && (!decide (i = p) && inH r h i))
      rw [q_clr _ (show p < 32 by omega) hi, hw i hi]
      cases decide (i < n) <;> cases inH r h i <;> cases decide (i = p) <;> rfl
    have hsplit := cntB_off (f := inH r h) hp
    rw [hin, if_pos rfl] at hsplit
    by_cases h2 : who &&& (((1 : Int32) <<< (nI p &&& 31)) ^^^ (-1 : Int32)) = 0
    · rw [if_pos h2]
      have h3 := (isB_z (by omega) hoB).mp h2
      rw [hMT, decide_eq_false (show ¬ 2 ≤ cntB (inH r h) n by omega)]
      exact ⟨r, by simp [bI], uE_rf r⟩
    · rw [if_neg h2]
      have h3 : ¬ cntB (fun q => !decide (q = p) && inH r h q) n = 0 := fun q => h2 ((isB_z (by omega) hoB).mpr q)
      have h4 : 2 ≤ cntB (inH r h) n := by omega
      obtain ⟨kv, ek, hkB⟩ := q_knowers hS hn hP.2.2.1 (show s < 8 by omega)
      rw [ek, q_b1]
      have hkoB : isB (kv &&& (who &&& (((1 : Int32) <<< (nI p &&& 31)) ^^^ (-1 : Int32)))) (fun q => !decide (q = p) && knH r m h s q) n := by
        intro i hi
        show _ = (decide (i < n) && (!decide (i = p) && knH r m h s i))
        have h5 : bt kv i = (decide (i < n) && bt (kn r m i) s) := hkB i hi
        have h6 : bt (who &&& (((1 : Int32) <<< (nI p &&& 31)) ^^^ (-1 : Int32))) i = (decide (i < n) && (!decide (i = p) && inH r h i)) := hoB i hi
        rw [b_and, h5, h6]
        unfold knH
        cases decide (i < n) <;> cases inH r h i <;> cases decide (i = p) <;> cases bt (kn r m i) s <;> rfl
      by_cases h5 : kv &&& (who &&& (((1 : Int32) <<< (nI p &&& 31)) ^^^ (-1 : Int32))) = 0
      · rw [if_pos h5]
        have h6 : nOth r n m h p s = true := by
          unfold nOth
          rw [decide_eq_true ((isB_z (by omega) hkoB).mp h5)]
        rw [(isB_cnt hn hw r).2, q_b1]
        obtain ⟨r', e', hE⟩ := q_valM hS hT hP (k := 2) (by omega) hp hs (c := cntB (inH r h) n) (by omega)
        have e' : fMo_says (2 : Int32) (nI p) (nI s) (nI (cntB (inH r h) n)) r = some (VAL r 2 p s (cntB (inH r h) n), r') := e'
        rw [e', q_b2, hMT, h1, h6, decide_eq_true h4]
        by_cases h7 : VAL r 2 p s (cntB (inH r h) n) = 0
        · rw [if_pos h7, decide_eq_true h7]
          exact ⟨r', rfl, hE⟩
        · rw [if_neg h7, decide_eq_false h7]
          exact ⟨r', rfl, hE⟩
      · rw [if_neg h5]
        have h6 : nOth r n m h p s = false := by
          unfold nOth
          rw [decide_eq_false (fun q => h5 ((isB_z (by omega) hkoB).mpr q))]
        rw [hMT, h6]
        exact ⟨r, by simp [bI], uE_rf r⟩
  · rw [if_neg h1]
    have h1 : bt (r 9 p) s = false := by simpa using h1
    rw [hMT, h1]
    exact ⟨r, by simp [bI], uE_rf r⟩
theorem q_teller {b n m nr : Nat} {ln : Nat → Nat} {g r : nt_T} (hb : b = 14 ∨ b = 21) (hQ : nt_Q b n m nr ln g r) (h : Int32) {s : Nat} (hs : s < m) : ∃ v r', fMo_teller h (nI s) r = some (v, r') ∧ nt_uE r r' ∧ isF (fun p => MT r n m h p s) n v := by
  obtain ⟨hS, hT, hP⟩ := id hQ
  have hm := hS.1
  have hn := hP.1
  unfold fMo_teller
  obtain ⟨who, ew, hw⟩ := q_sit hn hP.2.2.1 h
  rw [ew, q_b1]
  have H : ∃ y, nt_it (fun z => bMo_teller_9 (nI s) who z.1 z.2) nt_fu ((0 : Int32), r) = some y ∧ (∃ v r', nt_uE r r' ∧ isF (fun p => MT r n m h p s) n v ∧ ((y = .inl (v, r')) ∨ (v = -1 ∧ y = .inr r'))) := by
    refine q_loop (fun k st => ∃ r1, st = (nI k, r1) ∧ nt_uE r r1 ∧ ∀ p, p < k → MT r n m h p s = false) _ n (by omega) ⟨r, rfl, uE_rf r, fun p hp => absurd hp (by omega)⟩ ?_ ?_
    · intro k st hk hI
      obtain ⟨r1, rfl, hE, hf⟩ := hI
      have hQ1 := Q_E hb (cE_rf g) (uE_m hE) hQ
      show (∃ s', bMo_teller_9 (nI s) who (nI k) r1 = some (.inl s') ∧ _) ∨ (∃ y, bMo_teller_9 (nI s) who (nI k) r1 = some (.inr y) ∧ _)
      unfold bMo_teller_9
      rw [hQ1.2.2.2.2.1, if_neg (nI_ge hk (by omega))]
      simp only [q_tst1 _ (show k < 32 by omega)]
      have hwk := isB_bt hw (by omega) hk
      by_cases hh : bt who k = true
      · rw [if_pos hh]
        have hin : inH r h k = true := by rw [← hwk]; exact hh
        obtain ⟨r2, e2, hE2⟩ := q_mayT hQ1 (h := h) (who := who) (by rw [inH_E (uE_m hE)]; exact hw) hk hs (by rw [inH_E (uE_m hE)]; exact hin)
        rw [e2, q_b2, MT_E (uE_m hE)]
        simp only [q_lt, nI_1]
        cases hM : MT r n m h k s
        · rw [if_pos (show bI false = 0 from rfl)]
          left
          refine ⟨_, rfl, r2, rfl, uE_tr hE hE2, fun p hp => ?_⟩
          rcases Nat.lt_or_ge p k with q | q
          · exact hf p q
          · obtain rfl : p = k := by omega
            exact hM
        · rw [if_neg (show ¬ bI true = 0 by decide)]
          right
          exact ⟨_, rfl, nI k, r2, uE_tr hE hE2, Or.inr ⟨k, hk, rfl, hM, hf⟩, Or.inl rfl⟩
      · rw [if_neg hh]
        left
        simp only [q_lt, nI_1]
        refine ⟨_, rfl, r1, rfl, hE, fun p hp => ?_⟩
        rcases Nat.lt_or_ge p k with q | q
        · exact hf p q
        · obtain rfl : p = k := by omega
          have hin : inH r h p = false := by rw [← hwk]; simpa using hh
          unfold MT
          rw [hin, Bool.false_and]
    · intro st hI
      obtain ⟨r1, rfl, hE, hf⟩ := hI
      have hQ1 := Q_E hb (cE_rf g) (uE_m hE) hQ
      refine ⟨.inr r1, ?_, -1, r1, hE, Or.inl ⟨rfl, hf⟩, Or.inr ⟨rfl, rfl⟩⟩
      show bMo_teller_9 (nI s) who (nI n) r1 = _
      unfold bMo_teller_9
      rw [hQ1.2.2.2.2.1, if_pos (nI_le (Nat.le_refl n) (by omega))]
  obtain ⟨y, hy, v, r', hE, hF, hyy⟩ := H
  rw [hy, q_b1]
  rcases hyy with rfl | ⟨rfl, rfl⟩
  · exact ⟨v, r', rfl, hE, hF⟩
  · exact ⟨-1, r', rfl, hE, hF⟩
theorem isF_neg {f : Nat → Bool} {n : Nat} {v : Int32} (hn : n < 2 ^ 31) (h : isF f n v) : v = -1 ↔ ¬ 0 < cntB f n := by
  rcases h with ⟨rfl, h1⟩ | ⟨p, h1, rfl, h2, h3⟩
  · exact ⟨fun _ q => by have := cntB_0.mpr h1; omega, fun _ => rfl⟩
  · exact ⟨fun e => absurd e (nI_m1 (by omega)), fun q => absurd (cntB_pos h1 h2) q⟩
theorem q_allMay {b n m nr : Nat} {ln : Nat → Nat} {g r : nt_T} (hb : b = 14 ∨ b = 21) (hQ : nt_Q b n m nr ln g r) (h : Int32) : ∃ v r', fMo_allMay h r = some (v, r') ∧ nt_uE r r' ∧ isB v (mayB r n m h) m := by
  obtain ⟨hS, hT, hP⟩ := id hQ
  have hm := hS.1
  have hn := hP.1
  unfold fMo_allMay
  have H : ∃ y, nt_it (fun z => bMo_allMay_4 h z.1 z.2.1 z.2.2) nt_fu ((0 : Int32), (0 : Int32), r) = some y ∧ (nt_uE r y.2 ∧ isB y.1 (mayB r n m h) m) := by
    refine q_loop (fun k st => ∃ v r1, st = (v, nI k, r1) ∧ nt_uE r r1 ∧ isB v (mayB r n m h) k) _ m (by omega) ⟨0, r, rfl, uE_rf r, isB_0 _⟩ ?_ ?_
    · intro k st hk hI
      obtain ⟨v, r1, rfl, hE, hB⟩ := hI
      left
      have hQ1 := Q_E hb (cE_rf g) (uE_m hE) hQ
      show ∃ s', bMo_allMay_4 h v (nI k) r1 = some (.inl s') ∧ _
      unfold bMo_allMay_4
      rw [hQ1.1.2.2.1, if_neg (nI_ge hk (by omega))]
      obtain ⟨w, r2, e2, hE2, hF⟩ := q_teller hb hQ1 h hk
      rw [e2, q_b2]
      rw [MT_E (uE_m hE)] at hF
      simp only [q_lt, nI_1]
      have hneg := isF_neg (by omega) hF
      by_cases hz : w = -1
      · rw [if_pos hz]
        refine ⟨_, rfl, v, r2, rfl, uE_tr hE hE2, fun i hi => ?_⟩
        rw [hB i hi]
        by_cases e : i = k
        · subst e
          have : mayB r n m h i = false := by unfold mayB; rw [decide_eq_false (hneg.mp hz)]
          rw [this]; simp
        · rw [show decide (i < k + 1) = decide (i < k) from decide_eq_decide.mpr (by omega)]
      · rw [if_neg hz]
        refine ⟨_, rfl, _, r2, rfl, uE_tr hE hE2, fun i hi => ?_⟩
        rw [q_set _ (show k < 32 by omega) hi, hB i hi]
        by_cases e : i = k
        · subst e
          have : mayB r n m h i = true := by
            unfold mayB
            rw [decide_eq_true (Decidable.byContradiction (fun q => hz (hneg.mpr q)))]
          rw [this]; simp
        · rw [decide_eq_false e, show decide (i < k + 1) = decide (i < k) from decide_eq_decide.mpr (by omega), Bool.or_false]
    · intro st hI
      obtain ⟨v, r1, rfl, hE, hB⟩ := hI
      have hQ1 := Q_E hb (cE_rf g) (uE_m hE) hQ
      refine ⟨(v, r1), ?_, hE, hB⟩
      show bMo_allMay_4 h v (nI m) r1 = _
      unfold bMo_allMay_4
      rw [hQ1.1.2.2.1, if_pos (nI_le (Nat.le_refl m) (by omega))]
  obtain ⟨y, hy, hE, hB⟩ := H
  rw [hy, q_b1]
  exact ⟨y.1, y.2, rfl, hE, hB⟩
