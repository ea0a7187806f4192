/-! ===== what a story is worth, which is worth most ===== -/
def bnd (v l : Int32) : Int32 := nt_max l (nt_min (99 : Int32) v)
theorem q_within {v l : Int32} (hl : l.toInt ≤ 99) (g : nt_T) : fMo_within v l (99 : Int32) g = some (bnd v l) := by
  unfold fMo_within bnd nt_max nt_min
  have h99 : (99 : Int32).toInt = 99 := by decide
  have key : ∀ a b : Int32, a.toInt = b.toInt → some a = some b := fun a b h => by rw [Int32.toInt_inj.mp h]
  by_cases h1 : v < 99
  · rw [if_pos h1]
    rw [Int32.lt_iff_toInt_lt, h99] at h1
    by_cases h2 : l < v
    · rw [if_pos h2]
      rw [Int32.lt_iff_toInt_lt] at h2
      rw [if_pos (Int32.le_iff_toInt_le.mpr (by omega)), if_pos (Int32.le_iff_toInt_le.mpr (by rw [h99]; omega))]
    · rw [if_neg h2]
      rw [Int32.lt_iff_toInt_lt] at h2
      by_cases h3 : l ≤ v
      · rw [if_pos h3]
        rw [Int32.le_iff_toInt_le] at h3
        rw [if_pos (Int32.le_iff_toInt_le.mpr (by rw [h99]; omega))]
        exact key _ _ (by omega)
      · rw [if_neg h3]
  · rw [if_neg h1]
    rw [Int32.lt_iff_toInt_lt, h99] at h1
    rw [if_pos (Int32.le_iff_toInt_le.mpr (show l.toInt ≤ v.toInt by omega))]
    have e : (if l < (99 : Int32) then (99 : Int32) else l) = 99 := by
      by_cases h2 : l < 99
      · rw [if_pos h2]
      · rw [if_neg h2]
        rw [Int32.lt_iff_toInt_lt, h99] at h2
        exact Int32.toInt_inj.mp (by omega)
    rw [e]
    by_cases h3 : v ≤ 99
    · rw [if_pos h3]
      rw [Int32.le_iff_toInt_le, h99] at h3
      exact key _ _ (by omega)
    · rw [if_neg h3]
noncomputable def WB (r : nt_T) (h : Int32) (c p s : Nat) : Nat → Int32
  | 0 => bnd (VAL r 1 p s c) (-99)
  | k + 1 => if k ≠ p ∧ inH r h k = true then WB r h c p s k + bnd (VAL r 0 k s c) 0 else WB r h c p s k
theorem WB_E {r r' : nt_T} (hE : nt_mE r r') : WB r' = WB r := by
  funext h c p s k
  induction k with
  | zero => rw [WB, WB, VAL_E hE]
  | succ k ih => rw [WB, WB, ih, VAL_E hE, inH_E hE]
theorem q_worthC {b n m nr : Nat} {ln : Nat → Nat} {h : Int32} {g r : nt_T} (hb : b = 14 ∨ b = 21) (hQ : nt_Q b n m nr ln g r) (hl : nt_lk b n m h g r) {p s : Nat} (hp : p < n) (hs : s < m) (hin : inH r h p = true) : ∃ g', fPp_worthBy nr ln b (nI p) (nI s) g = some (Int32.toInt64 (WB r h (cntB (inH r h) n) p s n), g') ∧ nt_vE g g' := by
  obtain ⟨hS, hT, hP⟩ := id hQ
  have hm := hS.1
  have hn := hP.1
  have hc9 : cntB (inH r h) n ≤ n := cntB_le _ _
  unfold fPp_worthBy
  rw [hl.1]
  generalize hce : cntB (inH r h) n = c at hc9
  obtain ⟨g1, e1, hv1⟩ := q_valC hb hS hT hP (k := 1) (by omega) hp hs (c := c) (by omega)
  have e1 : fPp_value nr ln b (1 : Int32) (nI p) (nI s) (nI c) g = some (VAL r 1 p s c, g1) := e1
  rw [e1, q_b2]
  show ∃ g', nt_b1 (some (bnd (VAL r 1 p s c) (-99))) _ = _ ∧ _
  rw [q_b1]
  have hph : r 11 p = h := by unfold inH at hin; exact of_decide_eq_true hin
  have H : ∃ y, nt_it (fun z => bPp_worthBy_20 nr ln b (nI p) (nI s) z.1 z.2.1 z.2.2) nt_fu (bnd (VAL r 1 p s c) (-99), (0 : Int32), g1) = some y ∧ (y.1 = WB r h c p s n ∧ nt_vE g y.2) := by
    refine q_loop (fun k st => ∃ g2, st = (WB r h c p s k, nI k, g2) ∧ nt_vE g g2) _ n (by omega) ⟨g1, rfl, hv1⟩ ?_ ?_
    · intro k st hk hI
      obtain ⟨g2, rfl, hv⟩ := hI
      left
      have hQ2 := Q_E hb (vE_c hv) (mE_rf r) hQ
      have hl2 := lk_E hb hv hl
      show ∃ s', bPp_worthBy_20 nr ln b (nI p) (nI s) (WB r h c p s k) (nI k) g2 = some (.inl s') ∧ _
      unfold bPp_worthBy_20
      rw [hQ2.2.2.2.1, if_neg (nI_ge hk (by omega))]
      simp only [q_lt, nI_1]
      by_cases hkp : k = p
      · rw [if_pos (by rw [hkp])]
        exact ⟨_, rfl, g2, by rw [WB, if_neg (fun q => q.1 hkp)], hv⟩
      · rw [if_neg (fun q => hkp ((nI_eq (by omega) (by omega)).mp q)), q_gd (q_in (show k < 9 by omega) (by omega)), q_gd (q_in (show p < 9 by omega) (by omega)), nI_clamp (show k < 2 ^ 31 by omega), nI_clamp (show p < 2 ^ 31 by omega), (hQ2.2.2.2.2.2.2.2.2 k hk).1, (hQ2.2.2.2.2.2.2.2.2 p hp).1, hph]
        by_cases hh : r 11 k = h
        · rw [if_pos hh, hl2.1, hce]
          have hink : inH r h k = true := by unfold inH; rw [decide_eq_true hh]
          obtain ⟨g3, e3, hv3⟩ := q_valC hb hQ2.1 hQ2.2.1 hQ2.2.2 (k := 0) (by omega) hk hs (c := c) (by omega)
          have e3 : fPp_value nr ln b (0 : Int32) (nI k) (nI s) (nI c) g2 = some (VAL r 0 k s c, g3) := e3
          rw [e3, q_b2]
          exact ⟨_, rfl, g3, by rw [WB, if_pos ⟨hkp, hink⟩]; rfl, vE_tr hv hv3⟩
        · rw [if_neg hh]
          have hink : ¬ inH r h k = true := by unfold inH; rw [decide_eq_false hh]; decide
          exact ⟨_, rfl, g2, by rw [WB, if_neg (fun q => hink q.2)], hv⟩
    · intro st hI
      obtain ⟨g2, rfl, hv⟩ := hI
      have hQ2 := Q_E hb (vE_c hv) (mE_rf r) hQ
      refine ⟨(WB r h c p s n, g2), ?_, rfl, hv⟩
      show bPp_worthBy_20 nr ln b (nI p) (nI s) (WB r h c p s n) (nI n) g2 = _
      unfold bPp_worthBy_20
      rw [hQ2.2.2.2.1, if_pos (nI_le (Nat.le_refl n) (by omega))]
  obtain ⟨y, hy, h1, hv⟩ := H
  rw [hy, q_b1, ← h1]
  exact ⟨y.2, rfl, hv⟩
theorem q_worthM {b n m nr : Nat} {ln : Nat → Nat} {h : Int32} {g r : nt_T} (hb : b = 14 ∨ b = 21) (hQ : nt_Q b n m nr ln g r) {p s : Nat} (hp : p < n) (hs : s < m) : ∃ r', fMo_worthBy h (nI s) (nI p) r = some (WB r h (cntB (inH r h) n) p s n, r') ∧ nt_uE r r' := by
  obtain ⟨hS, hT, hP⟩ := id hQ
  have hm := hS.1
  have hn := hP.1
  have hc9 : cntB (inH r h) n ≤ n := cntB_le _ _
  unfold fMo_worthBy
  obtain ⟨who, ew, hw⟩ := q_sit hn hP.2.2.1 h
  rw [ew, q_b1, (isB_cnt hn hw r).2, q_b1]
  generalize hce : cntB (inH r h) n = c at hc9
  obtain ⟨r1, e1, hv1⟩ := q_valM hS hT hP (k := 1) (by omega) hp hs (c := c) (by omega)
  have e1 : fMo_says (1 : Int32) (nI p) (nI s) (nI c) r = some (VAL r 1 p s c, r1) := e1
  rw [e1, q_b2, q_within (by decide), q_b1]
  have H : ∃ y, nt_it (fun z => bMo_worthBy_31 (nI s) (nI p) who z.1 z.2.1 z.2.2) nt_fu (bnd (VAL r 1 p s c) (-99), (0 : Int32), r1) = some y ∧ (y.1 = WB r h c p s n ∧ nt_uE r y.2) := by
    refine q_loop (fun k st => ∃ r2, st = (WB r h c p s k, nI k, r2) ∧ nt_uE r r2) _ n (by omega) ⟨r1, rfl, hv1⟩ ?_ ?_
    · intro k st hk hI
      obtain ⟨r2, rfl, hv⟩ := hI
      left
      have hQ2 := Q_E hb (cE_rf g) (uE_m hv) hQ
      show ∃ s', bMo_worthBy_31 (nI s) (nI p) who (WB r h c p s k) (nI k) r2 = some (.inl s') ∧ _
      unfold bMo_worthBy_31
      rw [hQ2.2.2.2.2.1, if_neg (nI_ge hk (by omega))]
      simp only [q_tst1 _ (show k < 32 by omega), q_lt, nI_1]
      have hwk := isB_bt hw (by omega) hk
      by_cases hh : bt who k = true
      · rw [if_pos hh]
        have hink : inH r h k = true := by rw [← hwk]; exact hh
        by_cases hkp : k = p
        · rw [if_pos (by rw [hkp])]
          exact ⟨_, rfl, r2, by rw [WB, if_neg (fun q => q.1 hkp)], hv⟩
        · rw [if_neg (fun q => hkp ((nI_eq (by omega) (by omega)).mp q)), (isB_cnt hn hw r2).2, q_b1, hce]
          obtain ⟨r3, e3, hv3⟩ := q_valM hQ2.1 hQ2.2.1 hQ2.2.2 (k := 0) (by omega) hk hs (c := c) (by omega)
          rw [VAL_E (uE_m hv)] at e3
          have e3 : fMo_says (0 : Int32) (nI k) (nI s) (nI c) r2 = some (VAL r 0 k s c, r3) := e3
          rw [e3, q_b2, q_within (by decide), q_b1]
          exact ⟨_, rfl, r3, by rw [WB, if_pos ⟨hkp, hink⟩], uE_tr hv hv3⟩
      · rw [if_neg hh]
        have hink : ¬ inH r h k = true := by rw [← hwk]; exact hh
        exact ⟨_, rfl, r2, by rw [WB, if_neg (fun q => hink q.2)], hv⟩
    · intro st hI
      obtain ⟨r2, rfl, hv⟩ := hI
      have hQ2 := Q_E hb (cE_rf g) (uE_m hv) hQ
      refine ⟨(WB r h c p s n, r2), ?_, rfl, hv⟩
      show bMo_worthBy_31 (nI s) (nI p) who (WB r h c p s n) (nI n) r2 = _
      unfold bMo_worthBy_31
      rw [hQ2.2.2.2.2.1, if_pos (nI_le (Nat.le_refl n) (by omega))]
  obtain ⟨y, hy, h1, hv⟩ := H
  rw [hy, q_b1, ← h1]
  exact ⟨y.2, rfl, hv⟩
/-- the teller as a number -/
theorem isF_ex (f : Nat → Bool) (n : Nat) : ∃ v, isF f n v := by
  induction n with
  | zero => exact ⟨-1, Or.inl ⟨rfl, fun p hp => absurd hp (by omega)⟩⟩
  | succ n ih =>
    obtain ⟨v, hv⟩ := ih
    rcases hv with ⟨rfl, h1⟩ | ⟨p, h1, rfl, h2, h3⟩
    · cases hf : f n with
      | true => exact ⟨nI n, Or.inr ⟨n, by omega, rfl, hf, fun q hq => h1 q hq⟩⟩
      | false =>
        refine ⟨-1, Or.inl ⟨rfl, fun p hp => ?_⟩⟩
        rcases Nat.lt_or_ge p n with q | q
        · exact h1 p q
        · obtain rfl : p = n := by omega
          exact hf
    · exact ⟨nI p, Or.inr ⟨p, by omega, rfl, h2, h3⟩⟩
noncomputable def tel (f : Nat → Bool) (n : Nat) : Int32 := Classical.choose (isF_ex f n)
theorem tel_eq {f : Nat → Bool} {n : Nat} {v : Int32} (h : isF f n v) : v = tel f n := isF_eq h (Classical.choose_spec (isF_ex f n))
theorem isF_pos {f : Nat → Bool} {n : Nat} {v : Int32} (h : isF f n v) (h1 : ¬ v = -1) : ∃ p, p < n ∧ v = nI p ∧ f p = true := by
  rcases h with ⟨h2, -⟩ | ⟨p, a, b, c, -⟩
  · exact absurd h2 h1
  · exact ⟨p, a, b, c⟩
/-- WORTH of s in h, if p is its teller -/
noncomputable def WO (r : nt_T) (n m : Nat) (h : Int32) (s : Nat) : Int32 := WB r h (cntB (inH r h) n) (tel (fun p => MT r n m h p s) n).toNatClampNeg s n
theorem WO_E {r r' : nt_T} (hE : nt_mE r r') : WO r' = WO r := by
  funext n m h s
  unfold WO
  rw [WB_E hE, inH_E hE, MT_E hE]
theorem MT_in {r : nt_T} {n m : Nat} {h : Int32} {p s : Nat} (hM : MT r n m h p s = true) : inH r h p = true := by
  unfold MT at hM
  rw [Bool.and_eq_true] at hM
  exact hM.1
theorem q_worthOf {b n m nr : Nat} {ln : Nat → Nat} {g r : nt_T} (hb : b = 14 ∨ b = 21) (hQ : nt_Q b n m nr ln g r) (h : Int32) {s : Nat} (hs : s < m) : ∃ g', fPp_worthOf nr ln b h (nI s) g = some (if mayB r n m h s = true then Int32.toInt64 (WO r n m h s) else (-4611686018427387904 : Int64), g') ∧ nt_cE g g' := by
  have hn := hQ.2.2.1
  unfold fPp_worthOf
  obtain ⟨g1, e1, hc1, hl⟩ := q_look hb hQ.1 hQ.2.2 h
  have hQ1 := Q_E hb hc1 (mE_rf r) hQ
  obtain ⟨v, g2, e2, hv, hF⟩ := q_firstT hb hQ1 hl hs
  have hneg := isF_neg (by omega) hF
  rw [e1, q_b1, e2, q_b2]
  by_cases hz : v = -1
  · rw [if_pos hz]
    have : mayB r n m h s = false := by unfold mayB; rw [decide_eq_false (hneg.mp hz)]
    rw [this]
    exact ⟨g2, rfl, cE_tr hc1 (vE_c hv)⟩
  · rw [if_neg hz]
    have hm : mayB r n m h s = true := by unfold mayB; rw [decide_eq_true (Decidable.byContradiction (fun q => hz (hneg.mpr q)))]
    obtain ⟨p, hp, rfl, hM⟩ := isF_pos hF hz
    have hQ2 := Q_E hb (vE_c hv) (mE_rf r) hQ1
    obtain ⟨g3, e3, hv3⟩ := q_worthC hb hQ2 (lk_E hb hv hl) hp hs (MT_in hM)
    rw [e3, q_b2, if_pos hm]
    have e4 : WO r n m h s = WB r h (cntB (inH r h) n) p s n := by unfold WO; rw [← tel_eq hF, nI_clamp (by omega)]
    rw [e4]
    exact ⟨g3, rfl, cE_tr hc1 (vE_c (vE_tr hv hv3))⟩
/-- the search for the story that is worth most: which, its worth -/
noncomputable def BS (r : nt_T) (n m : Nat) (h : Int32) : Nat → Int32 × Int32
  | 0 => (-1, 0)
  | k + 1 => if mayB r n m h k = true ∧ ((BS r n m h k).1 = -1 ∨ (BS r n m h k).2 < WO r n m h k) then (nI k, WO r n m h k) else BS r n m h k
theorem BS_E {r r' : nt_T} (hE : nt_mE r r') : BS r' = BS r := by
  funext n m h k
  induction k with
  | zero => rfl
  | succ k ih => rw [BS, BS, ih, mayB_E hE, WO_E hE]
theorem BS_in (r : nt_T) (n m : Nat) (h : Int32) (k : Nat) : (BS r n m h k).1 = -1 ∨ ∃ s, s < k ∧ (BS r n m h k).1 = nI s ∧ mayB r n m h s = true ∧ (BS r n m h k).2 = WO r n m h s := by
  induction k with
  | zero => exact Or.inl rfl
  | succ k ih =>
    rw [BS]
    by_cases hc : mayB r n m h k = true ∧ ((BS r n m h k).1 = -1 ∨ (BS r n m h k).2 < WO r n m h k)
    · rw [if_pos hc]
      exact Or.inr ⟨k, by omega, rfl, hc.1, rfl⟩
    · rw [if_neg hc]
      rcases ih with h1 | ⟨s, h1, h2⟩
      · exact Or.inl h1
      · exact Or.inr ⟨s, by omega, h2⟩
theorem q_bestC {b n m nr : Nat} {ln : Nat → Nat} {g r : nt_T} (hb : b = 14 ∨ b = 21) (hQ : nt_Q b n m nr ln g r) (h : Int32) : ∃ g', fPp_bestOf nr ln b h g = some ((BS r n m h m).1, g') ∧ nt_cE g g' := by
  obtain ⟨hS, hT, hP⟩ := id hQ
  have hm := hS.1
  have hn := hP.1
  unfold fPp_bestOf
  obtain ⟨g1, e1, hc1, hl⟩ := q_look hb hS hP h
  have hQ1 := Q_E hb hc1 (mE_rf r) hQ
  rw [e1, q_b1]
  have hno : ∀ w : Int32, (-4611686018427387904 : Int64) < Int32.toInt64 w := by
    intro w
    rw [Int64.lt_iff_toInt_lt, Int32.toInt_toInt64]
    have := Int32.le_toInt w
    have e : (-4611686018427387904 : Int64).toInt = -4611686018427387904 := by decide
    omega
  have H : ∃ y, nt_it (fun z => bPp_bestOf_14 nr ln b h z.1 z.2.1 z.2.2.1 z.2.2.2) nt_fu ((-1 : Int32), (-4611686018427387904 : Int64), (0 : Int32), g1) = some y ∧ (y.1 = (BS r n m h m).1 ∧ nt_vE g1 y.2) := by
    refine q_loop (fun k st => ∃ w g2, st = ((BS r n m h k).1, w, nI k, g2) ∧ nt_vE g1 g2 ∧ w = if (BS r n m h k).1 = -1 then (-4611686018427387904 : Int64) else Int32.toInt64 (BS r n m h k).2) _ m (by omega) ⟨_, g1, rfl, vE_rf g1, rfl⟩ ?_ ?_
    · intro k st hk hI
      obtain ⟨w, g2, rfl, hv, hw⟩ := hI
      left
      have hQ2 := Q_E hb (vE_c hv) (mE_rf r) hQ1
      have hl2 := lk_E hb hv hl
      show ∃ s', bPp_bestOf_14 nr ln b h (BS r n m h k).1 w (nI k) g2 = some (.inl s') ∧ _
      unfold bPp_bestOf_14 jPp_bestOf_55
      rw [hQ2.1.2.1, if_neg (nI_ge hk (by omega))]
      obtain ⟨v, g3, e3, hv3, hF⟩ := q_firstT hb hQ2 hl2 hk
      have hneg := isF_neg (by omega) hF
      rw [e3, q_b2]
      simp only [q_lt, nI_1]
      by_cases hz : v = -1
      · rw [if_pos hz]
        have hmay : ¬ mayB r n m h k = true := by unfold mayB; rw [decide_eq_false (hneg.mp hz)]; decide
        have hle : (lg_cmp (-4611686018427387904 : Int64) w) ≤ 0 := by
          rw [lg_cmp_le, hw]
          split
          · exact Int64.le_refl _
          · exact Int64.le_of_lt (hno _)
        rw [if_pos hle]
        have eB : BS r n m h (k + 1) = BS r n m h k := by rw [BS, if_neg (fun q => hmay q.1)]
        exact ⟨_, rfl, w, g3, by rw [eB], vE_tr hv hv3, by rw [eB]; exact hw⟩
      · rw [if_neg hz]
        have hmay : mayB r n m h k = true := by unfold mayB; rw [decide_eq_true (Decidable.byContradiction (fun q => hz (hneg.mpr q)))]
        obtain ⟨p, hp, rfl, hM⟩ := isF_pos hF hz
        have hQ3 := Q_E hb (vE_c hv3) (mE_rf r) hQ2
        obtain ⟨g4, e4, hv4⟩ := q_worthC hb hQ3 (lk_E hb hv3 hl2) hp hk (MT_in hM)
        have e5 : WO r n m h k = WB r h (cntB (inH r h) n) p k n := by unfold WO; rw [← tel_eq hF, nI_clamp (by omega)]
        rw [e4, q_b2, ← e5]
        have hlt : ¬ (lg_cmp (Int32.toInt64 (WO r n m h k)) w) ≤ 0 ↔ ((BS r n m h k).1 = -1 ∨ (BS r n m h k).2 < WO r n m h k) := by
          rw [lg_cmp_le, Int64.not_le, hw]
          by_cases h1 : (BS r n m h k).1 = -1
          · rw [if_pos h1]
            exact ⟨fun _ => Or.inl h1, fun _ => hno _⟩
          · rw [if_neg h1, Int64.lt_iff_toInt_lt, Int32.toInt_toInt64, Int32.toInt_toInt64, ← Int32.lt_iff_toInt_lt]
            exact ⟨Or.inr, fun q => q.resolve_left h1⟩
        by_cases hc : (lg_cmp (Int32.toInt64 (WO r n m h k)) w) ≤ 0
        · rw [if_pos hc]
          have eB : BS r n m h (k + 1) = BS r n m h k := by rw [BS, if_neg (fun q => hlt.mpr q.2 hc)]
          exact ⟨_, rfl, w, g4, by rw [eB], vE_tr hv (vE_tr hv3 hv4), by rw [eB]; exact hw⟩
        · rw [if_neg hc]
          have eB : BS r n m h (k + 1) = (nI k, WO r n m h k) := by rw [BS, if_pos ⟨hmay, hlt.mp hc⟩]
          exact ⟨_, rfl, _, g4, by rw [eB], vE_tr hv (vE_tr hv3 hv4), by rw [eB]; exact (if_neg (nI_m1 (by omega))).symm⟩
    · intro st hI
      obtain ⟨w, g2, rfl, hv, hw⟩ := hI
      have hQ2 := Q_E hb (vE_c hv) (mE_rf r) hQ1
      refine ⟨((BS r n m h m).1, g2), ?_, rfl, hv⟩
      show bPp_bestOf_14 nr ln b h (BS r n m h m).1 w (nI m) g2 = _
      unfold bPp_bestOf_14
      rw [hQ2.1.2.1, if_pos (nI_le (Nat.le_refl m) (by omega))]
  obtain ⟨y, hy, h1, hv⟩ := H
  rw [hy, q_b1, ← h1]
  exact ⟨y.2, rfl, cE_tr hc1 (vE_c hv)⟩
theorem q_bestM {b n m nr : Nat} {ln : Nat → Nat} {g r : nt_T} (hb : b = 14 ∨ b = 21) (hQ : nt_Q b n m nr ln g r) (h : Int32) : ∃ r', fMo_best h r = some ((BS r n m h m).1, r') ∧ nt_mE r r' ∧ ((BS r n m h m).1 = -1 ∨ r' 0 34 = (BS r n m h m).2) := by
  obtain ⟨hS, hT, hP⟩ := id hQ
  have hm := hS.1
  have hn := hP.1
  unfold fMo_best
  have H : ∃ y, nt_it (fun z => bMo_best_4 h z.1 z.2.1 z.2.2) nt_fu ((-1 : Int32), (0 : Int32), r) = some y ∧ (y.1 = (BS r n m h m).1 ∧ nt_mE r y.2 ∧ ((BS r n m h m).1 = -1 ∨ y.2 0 34 = (BS r n m h m).2)) := by
    refine q_loop (fun k st => ∃ r1, st = ((BS r n m h k).1, nI k, r1) ∧ nt_mE r r1 ∧ ((BS r n m h k).1 = -1 ∨ r1 0 34 = (BS r n m h k).2)) _ m (by omega) ⟨r, rfl, mE_rf r, Or.inl rfl⟩ ?_ ?_
    · intro k st hk hI
      obtain ⟨r1, rfl, hE, hw⟩ := hI
      left
      have hQ1 := Q_E hb (cE_rf g) hE hQ
      show ∃ s', bMo_best_4 h (BS r n m h k).1 (nI k) r1 = some (.inl s') ∧ _
      unfold bMo_best_4 jMo_best_50
      rw [hQ1.1.2.2.1, if_neg (nI_ge hk (by omega))]
      obtain ⟨v, r2, e2, hE2, hF⟩ := q_teller hb hQ1 h hk
      rw [MT_E hE] at hF
      have hneg := isF_neg (by omega) hF
      rw [e2, q_b2]
      simp only [q_lt, nI_1]
      have h34 : r2 0 34 = r1 0 34 := hE2 0 34 (by omega)
      by_cases hz : v = -1
      · rw [if_pos hz]
        have hmay : ¬ mayB r n m h k = true := by unfold mayB; rw [decide_eq_false (hneg.mp hz)]; decide
        have eB : BS r n m h (k + 1) = BS r n m h k := by rw [BS, if_neg (fun q => hmay q.1)]
        exact ⟨_, rfl, r2, by rw [eB], mE_tr hE (uE_m hE2), by rw [eB, h34]; exact hw⟩
      · rw [if_neg hz]
        have hmay : mayB r n m h k = true := by unfold mayB; rw [decide_eq_true (Decidable.byContradiction (fun q => hz (hneg.mpr q)))]
        obtain ⟨p, hp, rfl, hM⟩ := isF_pos hF hz
        have hQ2 := Q_E hb (cE_rf g) (uE_m hE2) hQ1
        obtain ⟨r3, e3, hE3⟩ := q_worthM hb hQ2 (h := h) hp hk
        have e5 : WO r n m h k = WB r h (cntB (inH r h) n) p k n := by unfold WO; rw [← tel_eq hF, nI_clamp (by omega)]
        rw [WB_E (uE_m hE2), WB_E hE, inH_E (uE_m hE2), inH_E hE, ← e5] at e3
        rw [e3, q_b2]
        have h34b : r3 0 34 = r1 0 34 := (hE3 0 34 (by omega)).trans h34
        have hE13 : nt_mE r r3 := mE_tr hE (mE_tr (uE_m hE2) (uE_m hE3))
        by_cases hc1 : (BS r n m h k).1 = -1
        · rw [if_pos hc1]
          have eB : BS r n m h (k + 1) = (nI k, WO r n m h k) := by rw [BS, if_pos ⟨hmay, Or.inl hc1⟩]
          refine ⟨_, rfl, _, by rw [eB], mE_tr hE13 (mE_st (k := 0) (j := 34) (WO r n m h k) (by unfold nt_mS; omega)), Or.inr ?_⟩
          rw [eB, st_eq]
        · rw [if_neg hc1, h34b, hw.resolve_left hc1]
          by_cases hc2 : WO r n m h k ≤ (BS r n m h k).2
          · rw [if_pos hc2]
            have eB : BS r n m h (k + 1) = BS r n m h k := by rw [BS, if_neg (fun q => q.2.elim hc1 (fun a => absurd hc2 (Int32.not_le.mpr a)))]
            exact ⟨_, rfl, r3, by rw [eB], hE13, by rw [eB, h34b]; exact hw⟩
          · rw [if_neg hc2]
            have eB : BS r n m h (k + 1) = (nI k, WO r n m h k) := by rw [BS, if_pos ⟨hmay, Or.inr (Int32.not_le.mp hc2)⟩]
            refine ⟨_, rfl, _, by rw [eB], mE_tr hE13 (mE_st (k := 0) (j := 34) (WO r n m h k) (by unfold nt_mS; omega)), Or.inr ?_⟩
            rw [eB, st_eq]
    · intro st hI
      obtain ⟨r1, rfl, hE, hw⟩ := hI
      have hQ1 := Q_E hb (cE_rf g) hE hQ
      refine ⟨((BS r n m h m).1, r1), ?_, rfl, hE, hw⟩
      show bMo_best_4 h (BS r n m h m).1 (nI m) r1 = _
      unfold bMo_best_4
      rw [hQ1.1.2.2.1, if_pos (nI_le (Nat.le_refl m) (by omega))]
  obtain ⟨y, hy, h1, hE, hw⟩ := H
  rw [hy, q_b1, ← h1]
  refine ⟨y.2, rfl, hE, ?_⟩
  rw [h1]
  exact hw
