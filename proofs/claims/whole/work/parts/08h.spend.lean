/-! ===== TOLD: both sides ===== -/
theorem q_ix {p s : Nat} (hp : p < 9) (hs : s < 8) : (nI p * (8 : Int32)) + nI s = nI (8 * p + s) ∧ ((8 : Int32) * nI p) + nI s = nI (8 * p + s) := by
  have e1 : nI p * (8 : Int32) = nI (p * 8) := pk_mul p 8
  have e2 : (8 : Int32) * nI p = nI (8 * p) := pk_mul 8 p
  rw [e1, e2, nI_add, nI_add]
  exact ⟨by congr 1; omega, rfl⟩
/-- what telling leaves: heard at kh, since at ks, tonight -/
def nt_told (kh ks : Nat) (night : Int32) (s n : Nat) (f : Nat → Bool) (g g' : nt_T) : Prop := (∀ q, q < n → g' kh q = if f q = true then g kh q ||| ((1 : Int32) <<< (nI s &&& 31)) else g kh q) ∧ ∀ q, q < n → ∀ t, t < 8 → g' ks (8 * q + t) = if f q = true ∧ t = s then night else g ks (8 * q + t)
def nt_fE (b : Nat) (g g' : nt_T) : Prop := ∀ k j, ¬ nt_cS k j → k ≠ b + 4 → k ≠ b + 5 → g' k j = g k j
def nt_gE (r r' : nt_T) : Prop := ∀ k j, ¬ nt_mS k j → k ≠ 10 → k ≠ 12 → r' k j = r k j
theorem q_hear {b : Nat} {g : nt_T} {p s : Nat} (hp : p < 9) (hs : s < 8) : fPp_hear b (nI p) (nI s) g = some (nt_st (nt_st g (b + 4) p (g (b + 4) p ||| ((1 : Int32) <<< (nI s &&& 31)))) (b + 5) (8 * p + s) ((nt_st g (b + 4) p (g (b + 4) p ||| ((1 : Int32) <<< (nI s &&& 31)))) b 8)) := by
  unfold fPp_hear
  rw [q_gd (q_in hp (by omega)), q_gd (q_in hp (by omega))]
  simp only [q_lt, nI_clamp (show p < 2 ^ 31 by omega), (q_ix hp hs).1, nI_clamp (show 8 * p + s < 2 ^ 31 by omega)]
  rw [q_gd (q_in (show 8 * p + s < 72 by omega) (by omega))]
theorem q_tellC {b n nr : Nat} {ln : Nat → Nat} {g r : nt_T} (hb : b = 14 ∨ b = 21) (h : Int32) (hP : nt_qP b n g r) {p s : Nat} (hp : p < n) (hs : s < 8) : ∃ g', nt_it (fun z => bPp_spend_23 nr ln b h (nI s) (nI p) z.1 z.2) nt_fu ((0 : Int32), g) = some g' ∧ (∀ k j, k ≠ b + 4 → k ≠ b + 5 → g' k j = g k j) ∧ nt_told (b + 4) (b + 5) (g b 8) s n (fun q => inH r h q && !decide (q = p)) g g' := by
  have hn := hP.1
  refine q_loop (fun k st => ∃ g1, st = (nI k, g1) ∧ (∀ k j, k ≠ b + 4 → k ≠ b + 5 → g1 k j = g k j) ∧ nt_told (b + 4) (b + 5) (g b 8) s n (fun q => decide (q < k) && (inH r h q && !decide (q = p))) g g1) _ n (by omega) ⟨g, rfl, fun _ _ _ _ => rfl, fun q hq => by simp, fun q hq t ht => by simp⟩ ?_ ?_
  · intro k st hk hI
    obtain ⟨g1, rfl, hE, hT⟩ := hI
    left
    show ∃ s', bPp_spend_23 nr ln b h (nI s) (nI p) (nI k) g1 = some (.inl s') ∧ _
    unfold bPp_spend_23
    rw [hE b 7 (by omega) (by omega), hP.2.1, if_neg (nI_ge hk (by omega))]
    simp only [q_lt, nI_1]
    have same : (∀ q, q ≠ k → (decide (q < k + 1) && (inH r h q && !decide (q = p))) = (decide (q < k) && (inH r h q && !decide (q = p)))) := fun q hq => by rw [show decide (q < k + 1) = decide (q < k) from decide_eq_decide.mpr (by omega)]
    by_cases hkp : k = p
    · rw [if_pos (by rw [hkp])]
      have ee : (fun q => decide (q < k + 1) && (inH r h q && !decide (q = p))) = (fun q => decide (q < k) && (inH r h q && !decide (q = p))) := by
        funext q
        by_cases e : q = k
        · subst e; rw [decide_eq_true hkp]; simp
        · exact same q e
      exact ⟨_, rfl, g1, rfl, hE, by rw [ee]; exact hT⟩
    · rw [if_neg (fun q => hkp ((nI_eq (by omega) (by omega)).mp q)), q_gd (q_in (show k < 9 by omega) (by omega)), nI_clamp (show k < 2 ^ 31 by omega), hE (b + 1) k (by omega) (by omega), (hP.2.2.2.2.2.2 k hk).1]
      by_cases hh : r 11 k = h
      · have hin : inH r h k = true := by unfold inH; rw [decide_eq_true hh]
        rw [if_pos hh, q_hear (show k < 9 by omega) hs, q_b1]
        have h8 : (nt_st g1 (b + 4) k (g1 (b + 4) k ||| ((1 : Int32) <<< (nI s &&& 31)))) b 8 = g b 8 := by rw [st_slot _ _ (by omega), hE b 8 (by omega) (by omega)]
        rw [h8]
        refine ⟨_, rfl, _, rfl, fun k' j' h1 h2 => ?_, fun q hq => ?_, fun q hq t ht => ?_⟩
        · rw [st_slot _ _ (Or.inl h2), st_slot _ _ (Or.inl h1), hE k' j' h1 h2]
        · rw [st_slot _ _ (Or.inl (by omega))]
          by_cases e : q = k
          · subst e
            have h9 := hT.1 q hq
            simp at h9
            rw [st_eq, h9]
            simp [hin, hkp]
          · rw [st_slot _ _ (Or.inr e), hT.1 q hq]
            simp only [same q e]
        · by_cases e : q = k
          · subst e
            by_cases e2 : t = s
            · subst e2
              rw [st_eq]
              simp [hin, hkp]
            · rw [st_slot _ _ (Or.inr (by omega)), st_slot _ _ (Or.inl (by omega)), hT.2 q hq t ht]
              simp [e2]
          · rw [st_slot _ _ (Or.inr (by omega)), st_slot _ _ (Or.inl (by omega)), hT.2 q hq t ht]
            simp only [same q e]
      · have hin : inH r h k = false := by unfold inH; rw [decide_eq_false hh]
        rw [if_neg hh]
        have ee : (fun q => decide (q < k + 1) && (inH r h q && !decide (q = p))) = (fun q => decide (q < k) && (inH r h q && !decide (q = p))) := by
          funext q
          by_cases e : q = k
          · subst e; rw [hin]; simp
          · exact same q e
        exact ⟨_, rfl, g1, rfl, hE, by rw [ee]; exact hT⟩
  · intro st hI
    obtain ⟨g1, rfl, hE, hT⟩ := hI
    refine ⟨g1, ?_, hE, ?_⟩
    · show bPp_spend_23 nr ln b h (nI s) (nI p) (nI n) g1 = _
      unfold bPp_spend_23
      rw [hE b 7 (by omega) (by omega), hP.2.1, if_pos (nI_le (Nat.le_refl n) (by omega))]
    · refine ⟨fun q hq => ?_, fun q hq t ht => ?_⟩
      · rw [hT.1 q hq]; simp [hq]
      · rw [hT.2 q hq t ht]; simp [hq]
theorem q_tellM {n : Nat} {r : nt_T} (hn : n ≤ 9) (h17 : r 0 17 = nI n) (h : Int32) {p s : Nat} (hp : p < n) (hs : s < 8) : ∃ r', fMo_tellIn h (nI s) (nI p) r = some (nI (cntB (fun q => inH r h q && !decide (q = p)) n), r') ∧ (∀ k j, k ≠ 10 → k ≠ 12 → r' k j = r k j) ∧ nt_told 10 12 (r 0 18) s n (fun q => inH r h q && !decide (q = p)) r r' := by
  unfold fMo_tellIn
  have H : ∃ y, nt_it (fun z => bMo_tellIn_6 h (nI s) (nI p) z.1 z.2.1 z.2.2) nt_fu ((0 : Int32), (0 : Int32), r) = some y ∧ (y.1 = nI (cntB (fun q => inH r h q && !decide (q = p)) n) ∧ (∀ k j, k ≠ 10 → k ≠ 12 → y.2 k j = r k j) ∧ nt_told 10 12 (r 0 18) s n (fun q => inH r h q && !decide (q = p)) r y.2) := by
    refine q_loop (fun k st => ∃ r1, st = (nI (cntB (fun q => inH r h q && !decide (q = p)) k), nI k, r1) ∧ (∀ k j, k ≠ 10 → k ≠ 12 → r1 k j = r k j) ∧ nt_told 10 12 (r 0 18) s n (fun q => decide (q < k) && (inH r h q && !decide (q = p))) r r1) _ n (by omega) ⟨r, rfl, fun _ _ _ _ => rfl, fun q hq => by simp, fun q hq t ht => by simp⟩ ?_ ?_
    · intro k st hk hI
      obtain ⟨r1, rfl, hE, hT⟩ := hI
      left
      show ∃ s', bMo_tellIn_6 h (nI s) (nI p) (nI (cntB (fun q => inH r h q && !decide (q = p)) k)) (nI k) r1 = some (.inl s') ∧ _
      unfold bMo_tellIn_6
      rw [hE 0 17 (by omega) (by omega), h17, if_neg (nI_ge hk (by omega)), q_gd (q_in (show k < 9 by omega) (by omega)), nI_clamp (show k < 2 ^ 31 by omega), hE 11 k (by omega) (by omega)]
      simp only [q_lt, nI_1]
      have same : (∀ q, q ≠ k → (decide (q < k + 1) && (inH r h q && !decide (q = p))) = (decide (q < k) && (inH r h q && !decide (q = p)))) := fun q hq => by rw [show decide (q < k + 1) = decide (q < k) from decide_eq_decide.mpr (by omega)]
      by_cases hh : r 11 k = h
      · have hin : inH r h k = true := by unfold inH; rw [decide_eq_true hh]
        rw [if_pos hh]
        by_cases hkp : k = p
        · rw [if_pos (by rw [hkp])]
          have ee : (fun q => decide (q < k + 1) && (inH r h q && !decide (q = p))) = (fun q => decide (q < k) && (inH r h q && !decide (q = p))) := by
            funext q
            by_cases e : q = k
            · subst e; rw [decide_eq_true hkp]; simp
            · exact same q e
          refine ⟨_, rfl, r1, ?_, hE, by rw [ee]; exact hT⟩
          rw [cntB, decide_eq_true hkp]
          simp
        · rw [if_neg (fun q => hkp ((nI_eq (by omega) (by omega)).mp q)), q_gd (q_in (show k < 9 by omega) (by omega)), q_gd (q_in (show k < 9 by omega) (by omega)), (q_ix (show k < 9 by omega) hs).2, nI_clamp (show 8 * k + s < 2 ^ 31 by omega), q_gd (q_in (show 8 * k + s < 72 by omega) (by omega))]
          have h8 : (nt_st r1 10 k (r1 10 k ||| ((1 : Int32) <<< (nI s &&& 31)))) 0 18 = r 0 18 := by rw [st_slot _ _ (by omega), hE 0 18 (by omega) (by omega)]
          rw [h8]
          refine ⟨_, rfl, (nt_st (nt_st r1 10 k (r1 10 k ||| ((1 : Int32) <<< (nI s &&& 31)))) 12 (8 * k + s) (r 0 18)), ?_, fun k' j' h1 h2 => ?_, fun q hq => ?_, fun q hq t ht => ?_⟩
          · rw [cntB, hin, decide_eq_false hkp]
            simp
          · rw [st_slot _ _ (Or.inl h2), st_slot _ _ (Or.inl h1), hE k' j' h1 h2]
          · rw [st_slot _ _ (Or.inl (by omega))]
            by_cases e : q = k
            · subst e
              have h9 := hT.1 q hq
              simp at h9
              rw [st_eq, h9]
              simp [hin, hkp]
            · rw [st_slot _ _ (Or.inr e), hT.1 q hq]
              simp only [same q e]
          · by_cases e : q = k
            · subst e
              by_cases e2 : t = s
              · subst e2
                rw [st_eq]
                simp [hin, hkp]
              · rw [st_slot _ _ (Or.inr (by omega)), st_slot _ _ (Or.inl (by omega)), hT.2 q hq t ht]
                simp [e2]
            · rw [st_slot _ _ (Or.inr (by omega)), st_slot _ _ (Or.inl (by omega)), hT.2 q hq t ht]
              simp only [same q e]
      · have hin : inH r h k = false := by unfold inH; rw [decide_eq_false hh]
        rw [if_neg hh]
        have ee : (fun q => decide (q < k + 1) && (inH r h q && !decide (q = p))) = (fun q => decide (q < k) && (inH r h q && !decide (q = p))) := by
          funext q
          by_cases e : q = k
          · subst e; rw [hin]; simp
          · exact same q e
        refine ⟨_, rfl, r1, ?_, hE, by rw [ee]; exact hT⟩
        rw [cntB, hin]
        simp
    · intro st hI
      obtain ⟨r1, rfl, hE, hT⟩ := hI
      refine ⟨(nI (cntB (fun q => inH r h q && !decide (q = p)) n), r1), ?_, rfl, hE, ?_⟩
      · show bMo_tellIn_6 h (nI s) (nI p) (nI (cntB (fun q => inH r h q && !decide (q = p)) n)) (nI n) r1 = _
        unfold bMo_tellIn_6
        rw [hE 0 17 (by omega) (by omega), h17, if_pos (nI_le (Nat.le_refl n) (by omega))]
      · refine ⟨fun q hq => ?_, fun q hq t ht => ?_⟩
        · show r1 10 q = _
          rw [hT.1 q hq]; simp [hq]
        · show r1 12 (8 * q + t) = _
          rw [hT.2 q hq t ht]; simp [hq]
  obtain ⟨y, hy, h1, hE, hT⟩ := H
  rw [hy, q_b1, ← h1]
  exact ⟨y.2, rfl, hE, hT⟩
/-- the people behind it are alike again -/
theorem q_toldP {b n : Nat} {g r g' r' : nt_T} (hb : b = 14 ∨ b = 21) (hP : nt_qP b n g r) {s : Nat} (hs : s < 8) {f : Nat → Bool} (hg : ∀ k j, k ≠ b + 4 → k ≠ b + 5 → g' k j = g k j) (hr : ∀ k j, k ≠ 10 → k ≠ 12 → r' k j = r k j) (htg : nt_told (b + 4) (b + 5) (g b 8) s n f g g') (htr : nt_told 10 12 (r 0 18) s n f r r') : nt_qP b n g' r' := by
  obtain ⟨h1, h2, h3, h4, h5, h6, h7⟩ := hP
  refine ⟨h1, ?_, ?_, ?_, ?_, ?_, fun p hp => ?_⟩
  · rw [hg b 7 (by omega) (by omega)]; exact h2
  · rw [hr 0 17 (by omega) (by omega)]; exact h3
  · rw [hg b 8 (by omega) (by omega), hr 0 18 (by omega) (by omega)]; exact h4
  · rw [hg b 9 (by omega) (by omega), hr 0 4 (by omega) (by omega)]; exact h5
  · rw [hr 0 18 (by omega) (by omega)]; exact h6
  · obtain ⟨a1, a2, a3, a4, a5, a6, a7, a8, a9⟩ := h7 p hp
    unfold nt_q1
    rw [hg (b + 1) p (by omega) (by omega), hg (b + 2) p (by omega) (by omega), hg (b + 3) p (by omega) (by omega), hr 11 p (by omega) (by omega), hr 8 p (by omega) (by omega), hr 9 p (by omega) (by omega), htg.1 p hp, htr.1 p hp, a4]
    refine ⟨a1, a2, a3, rfl, a5, a6, a7, ?_, fun t ht hbt => ?_⟩
    · by_cases hf : f p = true
      · rw [if_pos hf]
        obtain ⟨x, hx, ex⟩ := a8
        refine q_byte (k := 8) (by omega) (fun i hi1 hi2 => ?_)
        rw [q_set _ (show s < 32 by omega) hi2, ex, q_small 8 (by omega) x (by omega) i hi2 hi1, decide_eq_false (by omega)]
        rfl
      · rw [if_neg hf]; exact a8
    · rw [htg.2 p hp t ht, htr.2 p hp t ht]
      by_cases hc : f p = true ∧ t = s
      · rw [if_pos hc, if_pos hc, h4]
        exact ⟨rfl, h6⟩
      · rw [if_neg hc, if_neg hc]
        refine a9 t ht ?_
        by_cases hf : f p = true
        · rw [if_pos hf, q_set _ (show s < 32 by omega) (show t < 32 by omega), decide_eq_false (fun e => hc ⟨hf, e⟩), Bool.or_false] at hbt
          exact hbt
        · rw [if_neg hf] at hbt
          exact hbt
