/-! ===== people as they were: takeAll, goBackTo; laid aside, laid back ===== -/
theorem scw_ne (g : nt_T) {k k' : Nat} (f : Nat → Int32) (h : k' ≠ k) : nt_sc g k f k' = g k' := if_neg h
theorem scw_eq (g : nt_T) (k : Nat) (f : Nat → Int32) : nt_sc g k f k = f := if_pos rfl
theorem q_cpok {n N M : Nat} (h1 : n ≤ N) (h2 : n ≤ M) (h3 : n < 2 ^ 31) : nt_cpok (0 : Int32) (0 : Int32) (nI n) N M = true := by
  unfold nt_cpok
  have hn := nI_pos h3
  have h0 : ¬ (0 : Int32) < 0 := by decide
  rw [decide_eq_true h0, decide_eq_true hn, sb_cl0, nI_clamp h3, decide_eq_true (show 0 + n ≤ N by omega), decide_eq_true (show 0 + n ≤ M by omega)]
  rfl
theorem q_cpy0 (f g : Nat → Int32) (n j : Nat) : va_cpy f g 0 0 n j = if j < n then f j else g j := by
  by_cases h : j < n
  · rw [if_pos h, sb_cpy0 h]
  · rw [if_neg h, pk_cpy_out (by omega)]
theorem q_backG {b b2 n : Nat} {g : nt_T} (hb : b + 7 ≤ b2 ∨ b2 + 7 ≤ b) (h7 : g b2 7 = nI n) (hn : n ≤ 9) : ∃ g', fPp_goBackTo b b2 g = some g' ∧ (∀ p, g' (b + 1) p = if p < n then g (b2 + 1) p else g (b + 1) p) ∧ (∀ p, g' (b + 4) p = if p < n then g (b2 + 4) p else g (b + 4) p) ∧ (∀ j, g' (b + 5) j = if j < n * 8 then g (b2 + 5) j else g (b + 5) j) ∧ g' b 8 = g b2 8 ∧ g' b 9 = g b2 9 ∧ ∀ k j, k ≠ b + 1 → k ≠ b + 4 → k ≠ b + 5 → ¬ (k = b ∧ (j = 8 ∨ j = 9)) → g' k j = g k j := by
  unfold fPp_goBackTo
  rw [h7, q_gd (q_cpok (show n ≤ 9 by omega) (show n ≤ 9 by omega) (by omega)), q_lt]
  rw [scw_ne _ _ (show b2 ≠ b + 1 by omega), h7, q_gd (q_cpok (show n ≤ 9 by omega) (show n ≤ 9 by omega) (by omega)), q_lt]
  rw [scw_ne _ _ (show b2 ≠ b + 4 by omega), scw_ne _ _ (show b2 ≠ b + 1 by omega), h7, show nI n * (8 : Int32) = nI (n * 8) from pk_mul n 8, q_gd (q_cpok (show n * 8 ≤ 72 by omega) (show n * 8 ≤ 72 by omega) (by omega)), q_lt, q_lt, q_lt, sb_cl0, nI_clamp (show n < 2 ^ 31 by omega), nI_clamp (show n * 8 < 2 ^ 31 by omega)]
  refine ⟨_, rfl, fun p => ?_, fun p => ?_, fun j => ?_, ?_, ?_, fun k j h1 h2 h3 h4 => ?_⟩
  · rw [st_slot _ _ (by omega), st_slot _ _ (by omega), scw_ne _ _ (by omega), scw_ne _ _ (by omega), scw_eq, q_cpy0]
  · rw [st_slot _ _ (by omega), st_slot _ _ (by omega), scw_ne _ _ (by omega), scw_eq, q_cpy0, scw_ne _ _ (by omega), scw_ne _ _ (by omega)]
  · rw [st_slot _ _ (by omega), st_slot _ _ (by omega), scw_eq, q_cpy0, scw_ne _ _ (by omega), scw_ne _ _ (by omega), scw_ne _ _ (by omega), scw_ne _ _ (by omega)]
  · rw [st_slot _ _ (by omega), st_eq, scw_ne _ _ (by omega), scw_ne _ _ (by omega), scw_ne _ _ (by omega)]
  · rw [st_eq, st_slot _ _ (by omega), scw_ne _ _ (by omega), scw_ne _ _ (by omega), scw_ne _ _ (by omega)]
  · rw [st_slot _ _ (by omega), st_slot _ _ (by omega), scw_ne _ _ (by omega), scw_ne _ _ (by omega), scw_ne _ _ (by omega)]
theorem q_takeG {b b2 n : Nat} {g : nt_T} (hb : b + 7 ≤ b2 ∨ b2 + 7 ≤ b) (h7 : g b2 7 = nI n) (hn : n ≤ 9) : ∃ g', fPp_takeAll b b2 g = some g' ∧ g' b 7 = nI n ∧ g' b 8 = g b2 8 ∧ g' b 9 = g b2 9 ∧ (∀ p, p < n → g' (b + 1) p = g (b2 + 1) p ∧ g' (b + 2) p = g (b2 + 2) p ∧ g' (b + 3) p = g (b2 + 3) p ∧ g' (b + 4) p = g (b2 + 4) p) ∧ (∀ j, j < n * 8 → g' (b + 5) j = g (b2 + 5) j) ∧ ∀ k j, k < b ∨ b + 7 ≤ k → g' k j = g k j := by
  unfold fPp_takeAll
  rw [h7, q_lt, st_eq, q_gd (q_cpok (show n ≤ 9 by omega) (show n ≤ 9 by omega) (by omega)), q_lt]
  rw [scw_ne _ _ (show b ≠ b + 2 by omega), st_eq, q_gd (q_cpok (show n ≤ 9 by omega) (show n ≤ 9 by omega) (by omega)), q_lt, sb_cl0, nI_clamp (show n < 2 ^ 31 by omega)]
  generalize hg5 : nt_sc (nt_sc (nt_st g b 7 (nI n)) (b + 2) _) (b + 3) _ = g5
  have a1 : ∀ k j, k ≠ b + 2 → k ≠ b + 3 → ¬ (k = b ∧ j = 7) → g5 k j = g k j := fun k j h1 h2 h3 => by rw [← hg5, scw_ne _ _ h2, scw_ne _ _ h1, st_slot _ _ (by omega)]
  have a2 : ∀ p, p < n → g5 (b + 2) p = g (b2 + 2) p := fun p hp => by rw [← hg5, scw_ne _ _ (by omega), scw_eq, q_cpy0, if_pos hp, st_slot _ _ (by omega)]
  have a3 : ∀ p, p < n → g5 (b + 3) p = g (b2 + 3) p := fun p hp => by rw [← hg5, scw_eq, q_cpy0, if_pos hp, scw_ne _ _ (by omega), st_slot _ _ (by omega)]
  have a7 : g5 b 7 = nI n := by rw [← hg5, scw_ne _ _ (by omega), scw_ne _ _ (by omega), st_eq]
  obtain ⟨g', e, h1, h4, h5, h8, h9, hE⟩ := q_backG (b := b) (b2 := b2) (g := g5) hb (by rw [a1 b2 7 (by omega) (by omega) (by omega)]; exact h7) hn
  rw [e, q_b1]
  refine ⟨g', rfl, ?_, ?_, ?_, fun p hp => ⟨?_, ?_, ?_, ?_⟩, fun j hj => ?_, fun k j hk => ?_⟩
  · rw [hE b 7 (by omega) (by omega) (by omega) (by omega), a7]
  · rw [h8, a1 _ _ (by omega) (by omega) (by omega)]
  · rw [h9, a1 _ _ (by omega) (by omega) (by omega)]
  · rw [h1, if_pos hp, a1 _ _ (by omega) (by omega) (by omega)]
  · rw [hE _ _ (by omega) (by omega) (by omega) (by omega), a2 p hp]
  · rw [hE _ _ (by omega) (by omega) (by omega) (by omega), a3 p hp]
  · rw [h4, if_pos hp, a1 _ _ (by omega) (by omega) (by omega)]
  · rw [h5, if_pos hj, a1 _ _ (by omega) (by omega) (by omega)]
  · rw [hE k j (by omega) (by omega) (by omega) (by omega), a1 k j (by omega) (by omega) (by omega)]
theorem q_take {n : Nat} {g r : nt_T} (hP : nt_qP 14 n g r) : ∃ g', fPp_takeAll 21 14 g = some g' ∧ nt_qP 21 n g' r ∧ ∀ k j, k < 21 ∨ 28 ≤ k → g' k j = g k j := by
  obtain ⟨hn, h7, h17, h8, h9, h10, hq⟩ := hP
  obtain ⟨g', e, b7, b8, b9, bp, bs, hE⟩ := q_takeG (b := 21) (b2 := 14) (g := g) (by omega) h7 hn
  refine ⟨g', e, ⟨hn, b7, h17, b8.trans h8, b9.trans h9, h10, fun p hp => ?_⟩, fun k j hk => hE k j (by omega)⟩
  obtain ⟨a1, a2, a3, a4, a5, a6, a7, a8, a9⟩ := hq p hp
  obtain ⟨c1, c2, c3, c4⟩ := bp p hp
  refine ⟨c1.trans a1, c2.trans a2, c3.trans a3, c4.trans a4, a5, a6, a7, a8, fun s hs hbt => ?_⟩
  rw [bs (8 * p + s) (by omega)]
  exact a9 s hs hbt
/-- the frame of what is done to thought: the rest stays -/
theorem q_aside (r : nt_T) : ∃ r', fMo_laysAside r = some r' ∧ (∀ p, p < 8 → r' 13 p = r 10 p ∧ r' 14 p = r 11 p) ∧ (∀ j, j < 64 → r' 15 j = r 12 j) ∧ r' 0 38 = r 0 18 ∧ ∀ k j, k ≠ 13 → k ≠ 14 → k ≠ 15 → ¬ (k = 0 ∧ j = 38) → r' k j = r k j := by
  unfold fMo_laysAside
  have H : ∃ y, nt_it (fun z => bMo_laysAside_2 z.1 z.2) nt_fu ((0 : Int32), r) = some y ∧ ((∀ p, p < 8 → y 13 p = r 10 p ∧ y 14 p = r 11 p) ∧ ∀ k j, k ≠ 13 → k ≠ 14 → y k j = r k j) := by
    refine q_loop (fun k st => ∃ r1, st = (nI k, r1) ∧ (∀ p, p < k → r1 13 p = r 10 p ∧ r1 14 p = r 11 p) ∧ ∀ k j, k ≠ 13 → k ≠ 14 → r1 k j = r k j) _ 8 (by omega) ⟨r, rfl, fun p hp => absurd hp (by omega), fun _ _ _ _ => rfl⟩ ?_ ?_
    · intro k st hk hI
      obtain ⟨r1, rfl, h1, h2⟩ := hI
      left
      show ∃ s', bMo_laysAside_2 (nI k) r1 = some (.inl s') ∧ _
      unfold bMo_laysAside_2
      have q8 : ¬ (8 : Int32) ≤ nI k := nI_ge (a := k) (b := 8) hk (by omega)
      rw [if_neg q8, q_gd (q_in (show k < 9 by omega) (by omega)), q_gd (q_in (show k < 9 by omega) (by omega)), q_lt, q_gd (q_in (show k < 9 by omega) (by omega)), q_gd (q_in (show k < 9 by omega) (by omega)), q_lt, q_lt, nI_1, nI_clamp (show k < 2 ^ 31 by omega)]
      refine ⟨_, rfl, _, rfl, fun p hp => ?_, fun k' j' a1 a2 => ?_⟩
      · by_cases e : p = k
        · subst e
          rw [st_slot _ _ (by omega), st_eq, st_eq, st_slot _ _ (by omega), h2 10 p (by omega) (by omega), h2 11 p (by omega) (by omega)]
          exact ⟨rfl, rfl⟩
        · rw [st_slot _ _ (by omega), st_slot _ _ (by omega), st_slot _ _ (by omega), st_slot _ _ (by omega)]
          exact h1 p (by omega)
      · rw [st_slot _ _ (by omega), st_slot _ _ (by omega)]
        exact h2 k' j' a1 a2
    · intro st hI
      obtain ⟨r1, rfl, h1, h2⟩ := hI
      refine ⟨r1, ?_, h1, h2⟩
      show bMo_laysAside_2 (nI 8) r1 = _
      unfold bMo_laysAside_2
      rw [if_pos (show (8 : Int32) ≤ nI 8 from nI_le (a := 8) (b := 8) (Nat.le_refl 8) (by omega))]
  obtain ⟨r1, e1, h1, h2⟩ := H
  rw [e1, q_b1]
  have H : ∃ y, nt_it (fun z => bMo_laysAside_40 z.1 z.2) nt_fu ((0 : Int32), r1) = some y ∧ ((∀ j, j < 64 → y 15 j = r 12 j) ∧ ∀ k j, k ≠ 15 → y k j = r1 k j) := by
    refine q_loop (fun k st => ∃ r2, st = (nI k, r2) ∧ (∀ p, p < k → r2 15 p = r 12 p) ∧ ∀ k j, k ≠ 15 → r2 k j = r1 k j) _ 64 (by omega) ⟨r1, rfl, fun p hp => absurd hp (by omega), fun _ _ _ => rfl⟩ ?_ ?_
    · intro k st hk hI
      obtain ⟨r2, rfl, h3, h4⟩ := hI
      left
      show ∃ s', bMo_laysAside_40 (nI k) r2 = some (.inl s') ∧ _
      unfold bMo_laysAside_40
      have q8 : ¬ (64 : Int32) ≤ nI k := nI_ge (a := k) (b := 64) hk (by omega)
      rw [if_neg q8, q_gd (q_in (show k < 72 by omega) (by omega)), q_gd (q_in (show k < 72 by omega) (by omega)), q_lt, q_lt, nI_1, nI_clamp (show k < 2 ^ 31 by omega)]
      refine ⟨_, rfl, _, rfl, fun p hp => ?_, fun k' j' a1 => ?_⟩
      · by_cases e : p = k
        · subst e
          rw [st_eq, h4 12 p (by omega), h2 12 p (by omega) (by omega)]
        · rw [st_slot _ _ (by omega)]
          exact h3 p (by omega)
      · rw [st_slot _ _ (by omega)]
        exact h4 k' j' a1
    · intro st hI
      obtain ⟨r2, rfl, h3, h4⟩ := hI
      refine ⟨r2, ?_, h3, h4⟩
      show bMo_laysAside_40 (nI 64) r2 = _
      unfold bMo_laysAside_40
      rw [if_pos (show (64 : Int32) ≤ nI 64 from nI_le (a := 64) (b := 64) (Nat.le_refl 64) (by omega))]
  obtain ⟨r2, e2, h3, h4⟩ := H
  rw [e2, q_b1, q_lt]
  refine ⟨_, rfl, fun p hp => ?_, fun j hj => ?_, ?_, fun k j a1 a2 a3 a4 => ?_⟩
  · rw [st_slot _ _ (by omega), st_slot _ _ (by omega), h4 13 p (by omega), h4 14 p (by omega)]
    exact h1 p hp
  · rw [st_slot _ _ (by omega)]
    exact h3 j hj
  · rw [st_eq, h4 0 18 (by omega), h2 0 18 (by omega) (by omega)]
  · rw [st_slot _ _ (by omega), h4 k j a3, h2 k j a1 a2]
theorem q_laid (r : nt_T) : ∃ r', fMo_laysBack r = some r' ∧ (∀ p, p < 8 → r' 10 p = r 13 p ∧ r' 11 p = r 14 p) ∧ (∀ j, j < 64 → r' 12 j = r 15 j) ∧ r' 0 18 = r 0 38 ∧ ∀ k j, k ≠ 10 → k ≠ 11 → k ≠ 12 → ¬ (k = 0 ∧ j = 18) → r' k j = r k j := by
  unfold fMo_laysBack
  have H : ∃ y, nt_it (fun z => bMo_laysBack_2 z.1 z.2) nt_fu ((0 : Int32), r) = some y ∧ ((∀ p, p < 8 → y 10 p = r 13 p ∧ y 11 p = r 14 p) ∧ ∀ k j, k ≠ 10 → k ≠ 11 → y k j = r k j) := by
    refine q_loop (fun k st => ∃ r1, st = (nI k, r1) ∧ (∀ p, p < k → r1 10 p = r 13 p ∧ r1 11 p = r 14 p) ∧ ∀ k j, k ≠ 10 → k ≠ 11 → r1 k j = r k j) _ 8 (by omega) ⟨r, rfl, fun p hp => absurd hp (by omega), fun _ _ _ _ => rfl⟩ ?_ ?_
    · intro k st hk hI
      obtain ⟨r1, rfl, h1, h2⟩ := hI
      left
      show ∃ s', bMo_laysBack_2 (nI k) r1 = some (.inl s') ∧ _
      unfold bMo_laysBack_2
      have q8 : ¬ (8 : Int32) ≤ nI k := nI_ge (a := k) (b := 8) hk (by omega)
      rw [if_neg q8, q_gd (q_in (show k < 9 by omega) (by omega)), q_gd (q_in (show k < 9 by omega) (by omega)), q_lt, q_gd (q_in (show k < 9 by omega) (by omega)), q_gd (q_in (show k < 9 by omega) (by omega)), q_lt, q_lt, nI_1, nI_clamp (show k < 2 ^ 31 by omega)]
      refine ⟨_, rfl, _, rfl, fun p hp => ?_, fun k' j' a1 a2 => ?_⟩
      · by_cases e : p = k
        · subst e
          rw [st_slot _ _ (by omega), st_eq, st_eq, st_slot _ _ (by omega), h2 13 p (by omega) (by omega), h2 14 p (by omega) (by omega)]
          exact ⟨rfl, rfl⟩
        · rw [st_slot _ _ (by omega), st_slot _ _ (by omega), st_slot _ _ (by omega), st_slot _ _ (by omega)]
          exact h1 p (by omega)
      · rw [st_slot _ _ (by omega), st_slot _ _ (by omega)]
        exact h2 k' j' a1 a2
    · intro st hI
      obtain ⟨r1, rfl, h1, h2⟩ := hI
      refine ⟨r1, ?_, h1, h2⟩
      show bMo_laysBack_2 (nI 8) r1 = _
      unfold bMo_laysBack_2
      rw [if_pos (show (8 : Int32) ≤ nI 8 from nI_le (a := 8) (b := 8) (Nat.le_refl 8) (by omega))]
  obtain ⟨r1, e1, h1, h2⟩ := H
  rw [e1, q_b1]
  have H : ∃ y, nt_it (fun z => bMo_laysBack_40 z.1 z.2) nt_fu ((0 : Int32), r1) = some y ∧ ((∀ j, j < 64 → y 12 j = r 15 j) ∧ ∀ k j, k ≠ 12 → y k j = r1 k j) := by
    refine q_loop (fun k st => ∃ r2, st = (nI k, r2) ∧ (∀ p, p < k → r2 12 p = r 15 p) ∧ ∀ k j, k ≠ 12 → r2 k j = r1 k j) _ 64 (by omega) ⟨r1, rfl, fun p hp => absurd hp (by omega), fun _ _ _ => rfl⟩ ?_ ?_
    · intro k st hk hI
      obtain ⟨r2, rfl, h3, h4⟩ := hI
      left
      show ∃ s', bMo_laysBack_40 (nI k) r2 = some (.inl s') ∧ _
      unfold bMo_laysBack_40
      have q8 : ¬ (64 : Int32) ≤ nI k := nI_ge (a := k) (b := 64) hk (by omega)
      rw [if_neg q8, q_gd (q_in (show k < 72 by omega) (by omega)), q_gd (q_in (show k < 72 by omega) (by omega)), q_lt, q_lt, nI_1, nI_clamp (show k < 2 ^ 31 by omega)]
      refine ⟨_, rfl, _, rfl, fun p hp => ?_, fun k' j' a1 => ?_⟩
      · by_cases e : p = k
        · subst e
          rw [st_eq, h4 15 p (by omega), h2 15 p (by omega) (by omega)]
        · rw [st_slot _ _ (by omega)]
          exact h3 p (by omega)
      · rw [st_slot _ _ (by omega)]
        exact h4 k' j' a1
    · intro st hI
      obtain ⟨r2, rfl, h3, h4⟩ := hI
      refine ⟨r2, ?_, h3, h4⟩
      show bMo_laysBack_40 (nI 64) r2 = _
      unfold bMo_laysBack_40
      rw [if_pos (show (64 : Int32) ≤ nI 64 from nI_le (a := 64) (b := 64) (Nat.le_refl 64) (by omega))]
  obtain ⟨r2, e2, h3, h4⟩ := H
  rw [e2, q_b1, q_lt]
  refine ⟨_, rfl, fun p hp => ?_, fun j hj => ?_, ?_, fun k j a1 a2 a3 a4 => ?_⟩
  · rw [st_slot _ _ (by omega), st_slot _ _ (by omega), h4 10 p (by omega), h4 11 p (by omega)]
    exact h1 p hp
  · rw [st_slot _ _ (by omega)]
    exact h3 j hj
  · rw [st_eq, h4 0 38 (by omega), h2 0 38 (by omega) (by omega)]
  · rw [st_slot _ _ (by omega), h4 k j a3, h2 k j a1 a2]
/-- r is as when r0 was laid aside, but for the people's houses, what they have heard, the night -/
def nt_laid (r0 r : nt_T) : Prop := (∀ p, p < 8 → r 13 p = r0 10 p ∧ r 14 p = r0 11 p) ∧ (∀ j, j < 64 → r 15 j = r0 12 j) ∧ r 0 38 = r0 0 18
theorem laid_E {r0 r r' : nt_T} (h : nt_rE r r') (ha : nt_laid r0 r) : nt_laid r0 r' := by
  unfold nt_laid at ha ⊢
  rw [rE_row h (k := 13) (by omega), rE_row h (k := 14) (by omega), rE_row h (k := 15) (by omega), h 0 38 (by unfold nt_mS; omega) (by omega) (by omega) (by omega) (by omega)]
  exact ha
/-- laid back: the people are as they were -/
theorem q_restore {n : Nat} {g r0 r : nt_T} (hn : n ≤ 8) (hP : nt_qP 14 n g r0) (ha : nt_laid r0 r) (h8 : r 8 = r0 8) (h9 : r 9 = r0 9) (h17 : r 0 17 = r0 0 17) (h4 : r 0 4 = r0 0 4) : ∃ r', fMo_laysBack r = some r' ∧ nt_qP 14 n g r' ∧ ∀ k j, k ≠ 10 → k ≠ 11 → k ≠ 12 → ¬ (k = 0 ∧ j = 18) → r' k j = r k j := by
  obtain ⟨r', e, l1, l2, l3, hE⟩ := q_laid r
  obtain ⟨b0, b7, b17, b8, b9, b10, hq⟩ := hP
  have e8 : r' 8 = r0 8 := by rw [← h8]; funext j; exact hE 8 j (by omega) (by omega) (by omega) (by omega)
  have e9 : r' 9 = r0 9 := by rw [← h9]; funext j; exact hE 9 j (by omega) (by omega) (by omega) (by omega)
  refine ⟨r', e, ⟨b0, b7, ?_, ?_, ?_, ?_, fun p hp => ?_⟩, hE⟩
  · rw [hE 0 17 (by omega) (by omega) (by omega) (by omega), h17]; exact b17
  · rw [l3, ha.2.2]; exact b8
  · rw [hE 0 4 (by omega) (by omega) (by omega) (by omega), h4]; exact b9
  · rw [l3, ha.2.2]; exact b10
  · unfold nt_q1
    rw [(l1 p (by omega)).1, (l1 p (by omega)).2, (ha.1 p (by omega)).1, (ha.1 p (by omega)).2, e8, e9]
    obtain ⟨a1, a2, a3, a4, a5, a6, a7, a8, a9⟩ := hq p hp
    refine ⟨a1, a2, a3, a4, a5, a6, a7, a8, fun s hs hbt => ?_⟩
    rw [l2 (8 * p + s) (by omega), ha.2.1 (8 * p + s) (by omega)]
    exact a9 s hs hbt
