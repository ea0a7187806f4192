/-! ===== which stories may be told, by whom: the class ===== -/
def nt_Q (b n m nr : Nat) (ln : Nat → Nat) (g r : nt_T) : Prop := nt_qS m g r ∧ nt_qT nr ln g r ∧ nt_qP b n g r
theorem Q_E {b n m nr : Nat} {ln : Nat → Nat} {g r g' r' : nt_T} (hb : b = 14 ∨ b = 21) (hc : nt_cE g g') (hm : nt_mE r r') (h : nt_Q b n m nr ln g r) : nt_Q b n m nr ln g' r' := ⟨qS_E hc hm h.1, qT_E hc hm h.2.1, qP_E hb hc hm h.2.2⟩
theorem lk_E {b n m : Nat} {h : Int32} {g g' r : nt_T} (hb : b = 14 ∨ b = 21) (hv : nt_vE g g') (hl : nt_lk b n m h g r) : nt_lk b n m h g' r := by
  have e : g' (b + 6) = g (b + 6) := by
    funext j
    exact hv _ _ (by omega) (by omega)
  unfold nt_lk at hl ⊢
  rw [hv b 10 (by omega) (by omega), hv b 12 (by omega) (by omega), hv b 13 (by omega) (by omega), e]
  exact hl
/-- nobody there but p knows s -/
def nOth (r : nt_T) (n m : Nat) (h : Int32) (p s : Nat) : Bool := decide (cntB (fun q => !decide (q = p) && knH r m h s q) n = 0)
/-- p MAY tell s in h -/
noncomputable def MT (r : nt_T) (n m : Nat) (h : Int32) (p s : Nat) : Bool := inH r h p && (bt (r 9 p) s && (decide (2 ≤ cntB (inH r h) n) && (nOth r n m h p s && decide (VAL r 2 p s (cntB (inH r h) n) = 0))))
/-- s MAY be told in h -/
noncomputable def mayB (r : nt_T) (n m : Nat) (h : Int32) (s : Nat) : Bool := decide (0 < cntB (fun p => MT r n m h p s) n)
theorem MT_E {r r' : nt_T} (h : nt_mE r r') : MT r' = MT r := by
  funext n m x p s
  unfold MT nOth
  rw [inH_E h, knH_E h, VAL_E h, mE_row h (k := 9) (by omega)]
theorem mayB_E {r r' : nt_T} (h : nt_mE r r') : mayB r' = mayB r := by
  funext n m x s
  unfold mayB
  rw [MT_E h]
/-- v is the first below n with f, or -1 -/
def isF (f : Nat → Bool) (n : Nat) (v : Int32) : Prop := (v = -1 ∧ ∀ p, p < n → f p = false) ∨ ∃ p, p < n ∧ v = nI p ∧ f p = true ∧ ∀ q, q < p → f q = false
theorem isF_eq {f : Nat → Bool} {n : Nat} {v w : Int32} (hv : isF f n v) (hw : isF f n w) : v = w := by
  rcases hv with ⟨rfl, h1⟩ | ⟨p, h1, rfl, h2, h3⟩
  · rcases hw with ⟨rfl, -⟩ | ⟨q, g1, rfl, g2, g3⟩
    · rfl
    · rw [h1 q g1] at g2; cases g2
  · rcases hw with ⟨rfl, g1⟩ | ⟨q, g1, rfl, g2, g3⟩
    · rw [g1 p h1] at h2; cases h2
    · rcases Nat.lt_trichotomy p q with e | e | e
      · rw [g3 p e] at h2; cases h2
      · rw [e]
      · rw [h3 q e] at g2; cases g2
theorem q_new {b n m : Nat} {h : Int32} {g r : nt_T} (hS : nt_qS m g r) (hn : n ≤ 9) (hl : nt_lk b n m h g r) {p : Nat} (hp : p < n) (hin : inH r h p = true) : ∃ E, fPp_newToOthers b (nI p) g = some E ∧ ∀ i, i < 32 → bt E i = (decide (i < m) && nOth r n m h p i) := by
  have hm := hS.1
  unfold fPp_newToOthers
  rw [qS_all hS, q_b1, q_gd (q_in (show p < 9 by omega) (by omega)), nI_clamp (show p < 2 ^ 31 by omega)]
  refine ⟨_, rfl, fun i hi => ?_⟩
  rw [b_and, b_and, q_not _ hi, q_not _ hi, b_and, q_not _ hi, q_all m (by omega) i hi, hl.2.1 p hp hin, hl.2.2.1 i hi, hl.2.2.2 i hi, cntB_off (f := knH r m h i) hp]
  have ek : knH r m h i p = bt (kn r m p) i := by unfold knH; rw [hin, Bool.true_and]
  unfold nOth
  rw [ek]
  generalize cntB (fun q => !decide (q = p) && knH r m h i q) n = o
  cases bt (kn r m p) i
  · rcases Nat.eq_zero_or_pos o with z | z
    · subst z; simp
    · rw [decide_eq_true (show 1 ≤ o + (if false = true then 1 else 0) from Nat.le_trans z (Nat.le_add_right _ _)), decide_eq_false (show ¬ o = 0 by omega)]
      simp
  · rcases Nat.eq_zero_or_pos o with z | z
    · subst z; simp
    · rw [decide_eq_true (show 2 ≤ o + (if true = true then 1 else 0) by simp; omega), decide_eq_false (show ¬ o = 0 by omega)]
      simp
theorem q_tellOf {b n m nr : Nat} {ln : Nat → Nat} {h : Int32} {g r : nt_T} (hb : b = 14 ∨ b = 21) (hQ : nt_Q b n m nr ln g r) (hl : nt_lk b n m h g r) {p : Nat} (hp : p < n) (hin : inH r h p = true) (x : Int32) : ∃ v g', fPp_tellableOf nr ln b (nI p) x g = some (v, g') ∧ nt_vE g g' ∧ isB v (fun s => bt x s && MT r n m h p s) m := by
  obtain ⟨hS, hT, hP⟩ := id hQ
  have hm := hS.1
  have hn := hP.1
  unfold fPp_tellableOf
  rw [hl.1]
  have hc9 : cntB (inH r h) n ≤ n := cntB_le _ _
  have hMT : ∀ s, MT r n m h p s = (bt (r 9 p) s && (decide (2 ≤ cntB (inH r h) n) && (nOth r n m h p s && decide (VAL r 2 p s (cntB (inH r h) n) = 0)))) := fun s => by unfold MT; rw [hin, Bool.true_and]
  generalize hce : cntB (inH r h) n = c at hc9 hMT
  by_cases h2 : 2 ≤ c
  · have q2 : (2 : Int32) ≤ nI c := (nI_leI (a := 2) (b := c) (by omega) (by omega)).mpr h2
    rw [if_pos q2]
    obtain ⟨E, hE, hEb⟩ := q_new hS hn hl hp hin
    rw [q_gd (q_in (show p < 9 by omega) (by omega)), hE]
    simp only [q_b1, q_lt, nI_clamp (show p < 2 ^ 31 by omega)]
    generalize hv4 : (x &&& g (b + 3) p) &&& E = v4
    have hb4 : ∀ i, i < 32 → bt v4 i = (bt x i && (bt (r 9 p) i && (decide (i < m) && nOth r n m h p i))) := by
      intro i hi
      rw [← hv4, b_and, b_and, hEb i hi, (hP.2.2.2.2.2.2 p hp).2.2.1, Bool.and_assoc]
    have H : ∃ y, nt_it (fun z => bPp_tellableOf_28 nr ln b (nI p) z.1 z.2.1 z.2.2) nt_fu (v4, (0 : Int32), g) = some y ∧ (nt_vE g y.2 ∧ isB y.1 (fun s => bt x s && MT r n m h p s) m) := by
      refine q_loop (fun k s => ∃ v g1, s = (v, nI k, g1) ∧ nt_vE g g1 ∧ ∀ i, i < 32 → bt v i = (bt v4 i && (!decide (i < k) || decide (VAL r 2 p i c = 0)))) _ m (by omega) ⟨v4, g, rfl, vE_rf g, fun i hi => by simp⟩ ?_ ?_
      · intro k s hk hI
        obtain ⟨v, g1, rfl, hv, hbv⟩ := hI
        left
        obtain ⟨hS1, hT1, hP1⟩ := Q_E hb (vE_c hv) (mE_rf r) hQ
        have hl1 := lk_E hb hv hl
        show ∃ s', bPp_tellableOf_28 nr ln b (nI p) v (nI k) g1 = some (.inl s') ∧ _
        unfold bPp_tellableOf_28
        rw [hS1.2.1, if_neg (nI_ge hk (by omega)), hl1.1, hce]
        simp only [q_tst1 v (show k < 32 by omega), q_lt, nI_1]
        by_cases hbt : bt v k = true
        · rw [if_pos hbt]
          obtain ⟨g2, e2, hv2⟩ := q_valC hb hS1 hT1 hP1 (k := 2) (by omega) hp hk (c := c) (by omega)
          have e2 : fPp_value nr ln b (2 : Int32) (nI p) (nI k) (nI c) g1 = some (VAL r 2 p k c, g2) := e2
          rw [e2, q_b2]
          by_cases hz : VAL r 2 p k c = 0
          · rw [if_pos hz]
            refine ⟨_, rfl, v, g2, rfl, vE_tr hv hv2, fun i hi => ?_⟩
            rw [hbv i hi]
            by_cases hik : i = k
            · subst hik
              rw [decide_eq_true hz]
              simp
            · rw [show decide (i < k + 1) = decide (i < k) from decide_eq_decide.mpr (by omega)]
          · rw [if_neg hz]
            refine ⟨_, rfl, _, g2, rfl, vE_tr hv hv2, fun i hi => ?_⟩
            rw [q_clr _ (show k < 32 by omega) hi, hbv i hi]
            by_cases hik : i = k
            · subst hik
              rw [decide_eq_false hz]
              simp
            · rw [show decide (i < k + 1) = decide (i < k) from decide_eq_decide.mpr (by omega), decide_eq_false hik]
              simp
        · rw [if_neg hbt]
          refine ⟨_, rfl, v, g1, rfl, hv, fun i hi => ?_⟩
          rw [hbv i hi]
          by_cases hik : i = k
          · subst hik
            have h4 := hbv i hi
            have hbt : bt v i = false := by simpa using hbt
            rw [hbt] at h4
            simp at h4
            rw [h4]
            simp
          · rw [show decide (i < k + 1) = decide (i < k) from decide_eq_decide.mpr (by omega)]
      · intro s hI
        obtain ⟨v, g1, rfl, hv, hbv⟩ := hI
        obtain ⟨hS1, hT1, hP1⟩ := Q_E hb (vE_c hv) (mE_rf r) hQ
        refine ⟨(v, g1), ?_, hv, fun i hi => ?_⟩
        · show bPp_tellableOf_28 nr ln b (nI p) v (nI m) g1 = _
          unfold bPp_tellableOf_28
          rw [hS1.2.1, if_pos (nI_le (Nat.le_refl m) (by omega))]
        · show bt v i = (decide (i < m) && (bt x i && MT r n m h p i))
          rw [hbv i hi, hb4 i hi, hMT i, decide_eq_true h2]
          by_cases him : i < m
          · rw [decide_eq_true him]
            cases bt x i <;> cases bt (r 9 p) i <;> cases nOth r n m h p i <;> simp
          · rw [decide_eq_false him]
            simp
    obtain ⟨y, hy, hv, hB⟩ := H
    rw [hy, q_b1]
    exact ⟨y.1, y.2, rfl, hv, hB⟩
  · have q2 : ¬ (2 : Int32) ≤ nI c := fun q => h2 ((nI_leI (a := 2) (b := c) (by omega) (by omega)).mp q)
    rw [if_neg q2]
    refine ⟨0, g, rfl, vE_rf g, fun i hi => ?_⟩
    show bt 0 i = (decide (i < m) && (bt x i && MT r n m h p i))
    rw [b_0, hMT i, decide_eq_false h2]
    simp
theorem q_firstT {b n m nr : Nat} {ln : Nat → Nat} {h : Int32} {g r : nt_T} (hb : b = 14 ∨ b = 21) (hQ : nt_Q b n m nr ln g r) (hl : nt_lk b n m h g r) {s : Nat} (hs : s < m) : ∃ v g', fPp_firstTeller nr ln b h (nI s) g = some (v, g') ∧ nt_vE g g' ∧ isF (fun p => MT r n m h p s) n v := by
  obtain ⟨hS, hT, hP⟩ := id hQ
  have hm := hS.1
  have hn := hP.1
  unfold fPp_firstTeller
  have H : ∃ y, nt_it (fun z => bPp_firstTeller_2 nr ln b h (nI s) z.1 z.2) nt_fu ((0 : Int32), g) = some y ∧ (∃ v g', nt_vE g g' ∧ isF (fun p => MT r n m h p s) n v ∧ ((y = .inl (v, g')) ∨ (v = -1 ∧ y = .inr g'))) := by
    refine q_loop (fun k st => ∃ g1, st = (nI k, g1) ∧ nt_vE g g1 ∧ ∀ p, p < k → MT r n m h p s = false) _ n (by omega) ⟨g, rfl, vE_rf g, fun p hp => absurd hp (by omega)⟩ ?_ ?_
    · intro k st hk hI
      obtain ⟨g1, rfl, hv, hf⟩ := hI
      have hQ1 := Q_E hb (vE_c hv) (mE_rf r) hQ
      have hl1 := lk_E hb hv hl
      show (∃ s', bPp_firstTeller_2 nr ln b h (nI s) (nI k) g1 = some (.inl s') ∧ _) ∨ (∃ y, bPp_firstTeller_2 nr ln b h (nI s) (nI k) g1 = some (.inr y) ∧ _)
      unfold bPp_firstTeller_2
      rw [hQ1.2.2.2.1, if_neg (nI_ge hk (by omega)), q_gd (q_in (show k < 9 by omega) (by omega)), nI_clamp (show k < 2 ^ 31 by omega), (hQ1.2.2.2.2.2.2.2.2 k hk).1]
      by_cases hh : r 11 k = h
      · have hin : inH r h k = true := by unfold inH; rw [decide_eq_true hh]
        rw [if_pos hh]
        obtain ⟨v, g2, e2, hv2, hB⟩ := q_tellOf hb hQ1 hl1 hk hin ((1 : Int32) <<< (nI s &&& 31))
        rw [e2, q_b2]
        simp only [q_lt, nI_1]
        by_cases hz : v = 0
        · rw [if_pos hz]
          left
          refine ⟨_, rfl, g2, rfl, vE_tr hv hv2, fun p hp => ?_⟩
          rcases Nat.lt_or_ge p k with q | q
          · exact hf p q
          · obtain rfl : p = k := by omega
            have h1 : bt v s = (decide (s < m) && (bt ((1 : Int32) <<< (nI s &&& 31)) s && MT r n m h p s)) := hB s (by omega)
            rw [hz, b_0, q_bit (s := s) (i := s) (by omega) (by omega), decide_eq_true hs] at h1
            simpa using h1.symm
        · rw [if_neg hz]
          right
          refine ⟨_, rfl, nI k, g2, vE_tr hv hv2, Or.inr ⟨k, hk, rfl, ?_, hf⟩, Or.inl rfl⟩
          show MT r n m h k s = true
          cases hM : MT r n m h k s with
          | true => rfl
          | false =>
            refine absurd ((isB_z (by omega) hB).mpr (cntB_0.mpr (fun i hi => ?_))) hz
            show (bt ((1 : Int32) <<< (nI s &&& 31)) i && MT r n m h k i) = false
            rw [q_bit (s := s) (i := i) (by omega) (by omega)]
            by_cases e : i = s
            · subst e; rw [hM, Bool.and_false]
            · rw [decide_eq_false e, Bool.false_and]
      · rw [if_neg hh]
        left
        simp only [q_lt, nI_1]
        refine ⟨_, rfl, g1, rfl, hv, fun p hp => ?_⟩
        rcases Nat.lt_or_ge p k with q | q
        · exact hf p q
        · obtain rfl : p = k := by omega
          unfold MT inH
          rw [decide_eq_false hh, Bool.false_and]
    · intro st hI
      obtain ⟨g1, rfl, hv, hf⟩ := hI
      have hQ1 := Q_E hb (vE_c hv) (mE_rf r) hQ
      refine ⟨.inr g1, ?_, -1, g1, hv, Or.inl ⟨rfl, hf⟩, ?_⟩
      · show bPp_firstTeller_2 nr ln b h (nI s) (nI n) g1 = _
        unfold bPp_firstTeller_2
        rw [hQ1.2.2.2.1, if_pos (nI_le (Nat.le_refl n) (by omega))]
      · exact Or.inr ⟨rfl, rfl⟩
  obtain ⟨y, hy, v, g', hv, hF, hyy⟩ := H
  rw [hy, q_b1]
  rcases hyy with rfl | ⟨rfl, rfl⟩
  · exact ⟨v, g', rfl, hv, hF⟩
  · exact ⟨-1, g', rfl, hv, hF⟩
