/-! ===== image, back ===== -/
theorem st_image {nr : Nat} {ln : Nat → Nat} {g r : nt_T} (h : nt_Rel nr ln g r) : ∃ (v : Int32) (ga : nt_T) (gb : nt_T), fNt_image g = some (v, ga) ∧ fMo_image r = some (v, gb) ∧ nt_Rel nr ln ga gb := by
  obtain ⟨m, n, hn, hQ, hO⟩ := id h
  have hP := hQ.2.2
  obtain ⟨p1, p2, p3, p4, p5, p6, p7⟩ := id hP
  obtain ⟨tr, htr, etr⟩ := qT_r hQ.2.1
  unfold fNt_image fMo_image
  obtain ⟨g1, e1, b7, b8, b9, bp, bs, hE⟩ := q_takeG (b := 28) (b2 := 14) (g := g) (by omega) p2 (show n ≤ 9 by omega)
  rw [e1, q_b1, q_lt]
  have H : ∃ y, nt_it (fun z => bMo_image_2 z.1 z.2) nt_fu ((0 : Int32), r) = some y ∧ ((∀ p, p < 8 → y 18 p = r 10 p ∧ y 19 p = r 11 p) ∧ ∀ k j, k ≠ 18 → k ≠ 19 → y k j = r k j) := by
    refine q_loop (fun k st => ∃ r1, st = (nI k, r1) ∧ (∀ p, p < k → r1 18 p = r 10 p ∧ r1 19 p = r 11 p) ∧ ∀ k j, k ≠ 18 → k ≠ 19 → r1 k j = r k j) _ 8 (by omega) ⟨r, rfl, fun p hp => absurd hp (by omega), fun _ _ _ _ => rfl⟩ ?_ ?_
    · intro k st hk hI
      obtain ⟨r1, rfl, h1, h2⟩ := hI
      left
      show ∃ s', bMo_image_2 (nI k) r1 = some (.inl s') ∧ _
      unfold bMo_image_2
      have q8 : ¬ (8 : Int32) ≤ nI k := nI_ge (a := k) (b := 8) hk (by omega)
      rw [if_neg q8]
      simp only [q_in (show k < 9 by omega) (show 9 < 2 ^ 31 by omega), q_gt, q_lt, nI_1, nI_clamp (show k < 2 ^ 31 by omega)]
      refine ⟨_, rfl, _, rfl, fun p hp => ?_, fun k' j' a1 a2 => ?_⟩
      · by_cases e : p = k
        · subst e
          rw [st_slot _ _ (by omega), st_eq, st_eq, st_slot _ _ (by omega), h2 10 p (by omega) (by omega), h2 11 p (by omega) (by omega)]
          exact ⟨rfl, rfl⟩
        · rw [st_slot _ _ (by omega), st_slot _ _ (by omega), st_slot _ _ (by omega), st_slot _ _ (by omega)]
          exact h1 p (by omega)
      · rw [st_slot _ _ (by omega), st_slot _ _ (by omega)]
        exact h2 k' j' a1 a2
    · intro st hI
      obtain ⟨r1, rfl, h1, h2⟩ := hI
      refine ⟨r1, ?_, h1, h2⟩
      show bMo_image_2 (nI 8) r1 = _
      unfold bMo_image_2
      rw [if_pos (show (8 : Int32) ≤ nI 8 from nI_le (a := 8) (b := 8) (Nat.le_refl 8) (by omega))]
  obtain ⟨r1, e2, h1, h2⟩ := H
  rw [e2, q_b1]
  have H : ∃ y, nt_it (fun z => bMo_image_40 z.1 z.2) nt_fu ((0 : Int32), r1) = some y ∧ ((∀ j, j < 64 → y 20 j = r 12 j) ∧ ∀ k j, k ≠ 20 → y k j = r1 k j) := by
    refine q_loop (fun k st => ∃ r2, st = (nI k, r2) ∧ (∀ p, p < k → r2 20 p = r 12 p) ∧ ∀ k j, k ≠ 20 → r2 k j = r1 k j) _ 64 (by omega) ⟨r1, rfl, fun p hp => absurd hp (by omega), fun _ _ _ => rfl⟩ ?_ ?_
    · intro k st hk hI
      obtain ⟨r2, rfl, h3, h4⟩ := hI
      left
      show ∃ s', bMo_image_40 (nI k) r2 = some (.inl s') ∧ _
      unfold bMo_image_40
      have q8 : ¬ (64 : Int32) ≤ nI k := nI_ge (a := k) (b := 64) hk (by omega)
      rw [if_neg q8]
      simp only [q_in (show k < 72 by omega) (show 72 < 2 ^ 31 by omega), q_gt, q_lt, nI_1, nI_clamp (show k < 2 ^ 31 by omega)]
      refine ⟨_, rfl, _, rfl, fun p hp => ?_, fun k' j' a1 => ?_⟩
      · by_cases e : p = k
        · subst e
          rw [st_eq, h4 12 p (by omega), h2 12 p (by omega) (by omega)]
        · rw [st_slot _ _ (by omega)]
          exact h3 p (by omega)
      · rw [st_slot _ _ (by omega)]
        exact h4 k' j' a1
    · intro st hI
      obtain ⟨r2, rfl, h3, h4⟩ := hI
      refine ⟨r2, ?_, h3, h4⟩
      show bMo_image_40 (nI 64) r2 = _
      unfold bMo_image_40
      rw [if_pos (show (64 : Int32) ≤ nI 64 from nI_le (a := 64) (b := 64) (Nat.le_refl 64) (by omega))]
  obtain ⟨r2, e3, h3, h4⟩ := H
  have r0 : ∀ j, r2 0 j = r 0 j := fun j => by rw [h4 0 j (by omega), h2 0 j (by omega) (by omega)]
  have rk : ∀ k, k ≠ 18 → k ≠ 19 → k ≠ 20 → r2 k = r k := fun k a b c => by funext j; rw [h4 k j c, h2 k j a b]
  have gk : ∀ k, k < 28 ∨ 35 ≤ k → g1 k = g k := fun k hk => by funext j; exact hE k j hk
  rw [e3, q_b1, q_lt, q_lt, q_lt]
  rw [st_slot r2 _ (show (0 : Nat) ≠ 0 ∨ (18 : Nat) ≠ 44 by omega), st_slot (nt_st r2 0 44 (r2 0 17)) _ (show (0 : Nat) ≠ 0 ∨ (4 : Nat) ≠ 45 by omega), st_slot r2 _ (show (0 : Nat) ≠ 0 ∨ (4 : Nat) ≠ 44 by omega), st_slot _ _ (show (0 : Nat) ≠ 0 ∨ (18 : Nat) ≠ 46 by omega), st_slot _ _ (show (0 : Nat) ≠ 0 ∨ (18 : Nat) ≠ 45 by omega), st_slot _ _ (show (0 : Nat) ≠ 0 ∨ (18 : Nat) ≠ 44 by omega), r0 17, r0 18, r0 4, p3, st_slot g1 _ (show (14 : Nat) ≠ 0 ∨ (8 : Nat) ≠ 8 by omega), gk 14 (by omega), p4]
  refine ⟨_, _, _, rfl, rfl, m, n, hn, ⟨qS_F (fun k h1 h2 => by rw [st_row _ _ _ (by omega)]; exact gk k (by omega)) (fun k h1 h2 => by rw [st_row _ _ _ (by omega), st_row _ _ _ (by omega), st_row _ _ _ (by omega)]; exact rk k (by omega) (by omega) (by omega)) (by rw [st_slot _ _ (by omega), st_slot _ _ (by omega), st_slot _ _ (by omega)]; exact r0 11) hQ.1, qT_F (by rw [st_slot _ _ (by omega), gk 6 (by omega)]) (fun k hk => by rw [st_row _ _ _ (by omega)]; exact gk k (by omega)) (by rw [st_row _ _ _ (by omega), st_row _ _ _ (by omega), st_row _ _ _ (by omega)]; exact rk 1 (by omega) (by omega) (by omega)) (by rw [st_row _ _ _ (by omega), st_row _ _ _ (by omega), st_row _ _ _ (by omega)]; exact rk 2 (by omega) (by omega) (by omega)) (by rw [st_slot _ _ (by omega), st_slot _ _ (by omega), st_slot _ _ (by omega)]; exact r0 3) (by rw [st_slot _ _ (by omega), st_slot _ _ (by omega), st_slot _ _ (by omega)]; exact r0 4) hQ.2.1, qP_F (fun k h1 h2 => by rw [st_row _ _ _ (by omega)]; exact gk k (by omega)) (fun k h1 h2 => by rw [st_row _ _ _ (by omega), st_row _ _ _ (by omega), st_row _ _ _ (by omega)]; exact rk k (by omega) (by omega) (by omega)) (fun j hj => by rw [st_slot _ _ (by omega), st_slot _ _ (by omega), st_slot _ _ (by omega)]; exact r0 j) hQ.2.2⟩, qR_F (by rw [st_slot _ _ (by omega), gk 10 (by omega)]) (by rw [st_row _ _ _ (by omega)]; exact gk 11 (by omega)) (by rw [st_slot _ _ (by omega), st_slot _ _ (by omega), st_slot _ _ (by omega)]; exact r0 6) (by rw [st_row _ _ _ (by omega), st_row _ _ _ (by omega), st_row _ _ _ (by omega)]; exact rk 3 (by omega) (by omega) (by omega)) hO.1, Or.inr ⟨st_eq _ _ _ _, n, Nat.le_refl n, ?_, ?_, ?_, ?_, ?_, ?_, fun p hp => ?_⟩, qH_F (fun k h1 h2 => by rw [st_row _ _ _ (by omega)]; exact gk k (by omega)) (fun k h1 h2 => by rw [st_row _ _ _ (by omega), st_row _ _ _ (by omega), st_row _ _ _ (by omega)]; exact rk k (by omega) (by omega) (by omega)) hO.2.2⟩
  · rw [st_slot _ _ (by omega), st_slot _ _ (by omega), st_eq]
  · rw [st_slot _ _ (by omega)]; exact b7
  · rw [st_slot _ _ (by omega), st_slot _ _ (by omega), st_eq, b8, p4]
  · rw [st_slot _ _ (by omega), st_eq, b9, p5]
  · rw [st_slot _ _ (by omega), st_eq]; exact p6
  · rw [st_eq]; exact ⟨tr, htr, etr⟩
  · obtain ⟨a1, a2, a3, a4, a5, a6, a7, a8, a9⟩ := p7 p hp
    obtain ⟨c1, c2, c3, c4⟩ := bp p hp
    rw [st_row _ _ _ (show (29 : Nat) ≠ 0 by omega), st_row _ _ _ (show (32 : Nat) ≠ 0 by omega), st_row _ _ _ (show (33 : Nat) ≠ 0 by omega), st_row _ _ _ (show (19 : Nat) ≠ 0 by omega), st_row _ _ _ (show (19 : Nat) ≠ 0 by omega), st_row _ _ _ (show (19 : Nat) ≠ 0 by omega), st_row _ _ _ (show (18 : Nat) ≠ 0 by omega), st_row _ _ _ (show (18 : Nat) ≠ 0 by omega), st_row _ _ _ (show (18 : Nat) ≠ 0 by omega), st_row _ _ _ (show (20 : Nat) ≠ 0 by omega), st_row _ _ _ (show (20 : Nat) ≠ 0 by omega), st_row _ _ _ (show (20 : Nat) ≠ 0 by omega), h4 19 p (by omega), h4 18 p (by omega), (h1 p (by omega)).1, (h1 p (by omega)).2]
    have c1 : g1 29 p = g (14 + 1) p := c1
    have c4 : g1 32 p = g (14 + 4) p := c4
    refine ⟨c1.trans a1, c4.trans a4, a5, a8, fun s hs hbt => ?_⟩
    have c5 : g1 33 (8 * p + s) = g (14 + 5) (8 * p + s) := bs (8 * p + s) (by omega)
    rw [c5, h3 (8 * p + s) (by omega)]
    exact a9 s hs hbt
theorem st_back {nr : Nat} {ln : Nat → Nat} {g r : nt_T} (h : nt_Rel nr ln g r) : ∃ (v : Int32) (ga : nt_T) (gb : nt_T), fNt_back g = some (v, ga) ∧ fMo_back r = some (v, gb) ∧ nt_Rel nr ln ga gb := by
  obtain ⟨m, n, hn, hQ, hO⟩ := id h
  have hP := hQ.2.2
  obtain ⟨p1, p2, p3, p4, p5, p6, p7⟩ := id hP
  unfold fNt_back fMo_back
  rcases hO.2.1 with ⟨i1, i2⟩ | ⟨i1, n0, hn0, i2, i3, i4, i5, i6, i7, i8⟩
  · rw [if_pos i1, if_pos i2]
    exact ⟨_, _, _, rfl, rfl, h⟩
  · rw [if_neg (by rw [i1]; decide), if_neg (by rw [i2]; exact nI_m1 (by omega))]
    obtain ⟨g1, e1, b1, b4, b5, b8, b9, hE⟩ := q_backG (b := 14) (b2 := 28) (g := g) (by omega) i3 (show n0 ≤ 9 by omega)
    rw [e1, q_b1]
    have H : ∃ y, nt_it (fun z => bMo_back_13 z.1 z.2) nt_fu ((0 : Int32), r) = some y ∧ ((∀ p, y 10 p = (if p < n0 then r 18 p else r 10 p) ∧ y 11 p = (if p < n0 then r 19 p else r 11 p)) ∧ ∀ k j, k ≠ 10 → k ≠ 11 → y k j = r k j) := by
      refine q_loop (fun k st => ∃ r1, st = (nI k, r1) ∧ (∀ p, r1 10 p = (if p < k then r 18 p else r 10 p) ∧ r1 11 p = (if p < k then r 19 p else r 11 p)) ∧ ∀ k j, k ≠ 10 → k ≠ 11 → r1 k j = r k j) _ n0 (by omega) ⟨r, rfl, fun p => by simp, fun _ _ _ _ => rfl⟩ ?_ ?_
      · intro k st hk hI
        obtain ⟨r1, rfl, h1, h2⟩ := hI
        left
        show ∃ s', bMo_back_13 (nI k) r1 = some (.inl s') ∧ _
        unfold bMo_back_13
        rw [h2 0 44 (by omega) (by omega), i2, if_neg (nI_ge hk (by omega))]
        simp only [q_in (show k < 9 by omega) (show 9 < 2 ^ 31 by omega), q_gt, q_lt, nI_1, nI_clamp (show k < 2 ^ 31 by omega)]
        refine ⟨_, rfl, _, rfl, fun p => ?_, fun k' j' a1 a2 => ?_⟩
        · by_cases e : p = k
          · subst e
            rw [st_slot _ _ (by omega), st_eq, st_eq, st_slot _ _ (by omega), h2 18 p (by omega) (by omega), h2 19 p (by omega) (by omega)]
            simp
          · rw [st_slot _ _ (by omega), st_slot _ _ (by omega), st_slot _ _ (by omega), st_slot _ _ (by omega), (h1 p).1, (h1 p).2]
            by_cases q : p < k
            · rw [if_pos q, if_pos q, if_pos (show p < k + 1 by omega), if_pos (show p < k + 1 by omega)]
              exact ⟨rfl, rfl⟩
            · rw [if_neg q, if_neg q, if_neg (show ¬ p < k + 1 by omega), if_neg (show ¬ p < k + 1 by omega)]
              exact ⟨rfl, rfl⟩
        · rw [st_slot _ _ (by omega), st_slot _ _ (by omega)]
          exact h2 k' j' a1 a2
      · intro st hI
        obtain ⟨r1, rfl, h1, h2⟩ := hI
        refine ⟨r1, ?_, h1, h2⟩
        show bMo_back_13 (nI n0) r1 = _
        unfold bMo_back_13
        rw [h2 0 44 (by omega) (by omega), i2, if_pos (nI_le (Nat.le_refl n0) (by omega))]
    obtain ⟨r1, e2, h1, h2⟩ := H
    rw [e2, q_b1]
    have H : ∃ y, nt_it (fun z => bMo_back_53 z.1 z.2) nt_fu ((0 : Int32), r1) = some y ∧ ((∀ j, y 12 j = if j < 8 * n0 then r 20 j else r 12 j) ∧ ∀ k j, k ≠ 12 → y k j = r1 k j) := by
      refine q_loop (fun k st => ∃ r2, st = (nI k, r2) ∧ (∀ j, r2 12 j = if j < k then r 20 j else r 12 j) ∧ ∀ k j, k ≠ 12 → r2 k j = r1 k j) _ (8 * n0) (by omega) ⟨r1, rfl, fun j => by rw [h2 12 j (by omega) (by omega)]; simp, fun _ _ _ => rfl⟩ ?_ ?_
      · intro k st hk hI
        obtain ⟨r2, rfl, h3, h4⟩ := hI
        left
        show ∃ s', bMo_back_53 (nI k) r2 = some (.inl s') ∧ _
        unfold bMo_back_53
        rw [h4 0 44 (by omega), h2 0 44 (by omega) (by omega), i2, show (8 : Int32) * nI n0 = nI (8 * n0) from pk_mul 8 n0, if_neg (nI_ge hk (by omega))]
        simp only [q_in (show k < 72 by omega) (show 72 < 2 ^ 31 by omega), q_gt, q_lt, nI_1, nI_clamp (show k < 2 ^ 31 by omega)]
        refine ⟨_, rfl, _, rfl, fun p => ?_, fun k' j' a1 => ?_⟩
        · by_cases e : p = k
          · subst e
            rw [st_eq, h4 20 p (by omega), h2 20 p (by omega) (by omega), if_pos (by omega)]
          · rw [st_slot _ _ (by omega), h3 p]
            by_cases q : p < k
            · rw [if_pos q, if_pos (show p < k + 1 by omega)]
            · rw [if_neg q, if_neg (show ¬ p < k + 1 by omega)]
        · rw [st_slot _ _ (by omega)]
          exact h4 k' j' a1
      · intro st hI
        obtain ⟨r2, rfl, h3, h4⟩ := hI
        refine ⟨r2, ?_, h3, h4⟩
        show bMo_back_53 (nI (8 * n0)) r2 = _
        unfold bMo_back_53
        rw [h4 0 44 (by omega), h2 0 44 (by omega) (by omega), i2, show (8 : Int32) * nI n0 = nI (8 * n0) from pk_mul 8 n0, if_pos (nI_le (Nat.le_refl (8 * n0)) (by omega))]
    obtain ⟨r2, e3, h3, h4⟩ := H
    have r0 : ∀ j, r2 0 j = r 0 j := fun j => by rw [h4 0 j (by omega), h2 0 j (by omega) (by omega)]
    have rk : ∀ k, k ≠ 10 → k ≠ 11 → k ≠ 12 → r2 k = r k := fun k a b c => by funext j; rw [h4 k j c, h2 k j a b]
    have gk : ∀ k, k < 14 ∨ 20 ≤ k → g1 k = g k := fun k hk => by funext j; exact hE k j (by omega) (by omega) (by omega) (by omega)
    rw [e3, q_b1, q_lt, q_lt, st_slot (nt_st r2 0 18 (r2 0 45)) _ (show (0 : Nat) ≠ 0 ∨ (18 : Nat) ≠ 4 by omega), st_eq, st_slot r2 _ (show (0 : Nat) ≠ 0 ∨ (46 : Nat) ≠ 18 by omega), r0 45, r0 46, b8, i4]
    refine ⟨_, _, _, rfl, rfl, m, n, hn, ⟨qS_F (fun k h1 h2 => gk k (by omega)) (fun k h1 h2 => by rw [st_row _ _ _ (by omega), st_row _ _ _ (by omega)]; exact rk k (by omega) (by omega) (by omega)) (by rw [st_slot _ _ (by omega), st_slot _ _ (by omega)]; exact r0 11) hQ.1, qT_R (by rw [gk 6 (by omega)]) (fun k hk => gk k (by omega)) (by rw [st_row _ _ _ (by omega), st_row _ _ _ (by omega)]; exact rk 1 (by omega) (by omega) (by omega)) (by rw [st_row _ _ _ (by omega), st_row _ _ _ (by omega)]; exact rk 2 (by omega) (by omega) (by omega)) (by rw [st_slot _ _ (by omega), st_slot _ _ (by omega)]; exact r0 3) (by rw [st_eq]; exact i7) hQ.2.1, ⟨p1, ?_, ?_, ?_, ?_, ?_, fun p hp => ?_⟩⟩, qR_F (by rw [gk 10 (by omega)]) (gk 11 (by omega)) (by rw [st_slot _ _ (by omega), st_slot _ _ (by omega)]; exact r0 6) (by rw [st_row _ _ _ (by omega), st_row _ _ _ (by omega)]; exact rk 3 (by omega) (by omega) (by omega)) hO.1, qI_F (by rw [gk 0 (by omega)]) (fun k h1 h2 => gk k (by omega)) (fun j h1 h2 => by rw [st_slot _ _ (by omega), st_slot _ _ (by omega)]; exact r0 j) (fun k h1 h2 => by rw [st_row _ _ _ (by omega), st_row _ _ _ (by omega)]; exact rk k (by omega) (by omega) (by omega)) hO.2.1, qH_F (fun k h1 h2 => gk k (by omega)) (fun k h1 h2 => by rw [st_row _ _ _ (by omega), st_row _ _ _ (by omega)]; exact rk k (by omega) (by omega) (by omega)) hO.2.2⟩
    · rw [hE 14 7 (by omega) (by omega) (by omega) (by omega)]; exact p2
    · rw [st_slot _ _ (by omega), st_slot _ _ (by omega), r0 17]; exact p3
    · rw [st_slot _ _ (by omega), st_eq, b8]; exact i4
    · rw [st_eq, b9]; exact i5
    · rw [st_slot _ _ (by omega), st_eq]; exact i6
    · obtain ⟨a1, a2, a3, a4, a5, a6, a7, a8, a9⟩ := p7 p hp
      unfold nt_q1
      rw [st_row _ _ _ (show (11 : Nat) ≠ 0 by omega), st_row _ _ _ (show (11 : Nat) ≠ 0 by omega), st_row _ _ _ (show (8 : Nat) ≠ 0 by omega), st_row _ _ _ (show (8 : Nat) ≠ 0 by omega), st_row _ _ _ (show (9 : Nat) ≠ 0 by omega), st_row _ _ _ (show (9 : Nat) ≠ 0 by omega), st_row _ _ _ (show (10 : Nat) ≠ 0 by omega), st_row _ _ _ (show (10 : Nat) ≠ 0 by omega), st_row _ _ _ (show (12 : Nat) ≠ 0 by omega), st_row _ _ _ (show (12 : Nat) ≠ 0 by omega), b1 p, b4 p, h4 11 p (by omega), h4 10 p (by omega), (h1 p).1, (h1 p).2, hE (14 + 2) p (by omega) (by omega) (by omega) (by omega), hE (14 + 3) p (by omega) (by omega) (by omega) (by omega), rk 8 (by omega) (by omega) (by omega), rk 9 (by omega) (by omega) (by omega)]
      by_cases q : p < n0
      · obtain ⟨c1, c2, c3, c4, c5⟩ := i8 p q
        simp only [if_pos q]
        refine ⟨c1, a2, a3, c2, c3, a6, a7, c4, fun s hs hbt => ?_⟩
        rw [b5, h3, if_pos (by omega), if_pos (by omega)]
        exact c5 s hs hbt
      · simp only [if_neg q]
        refine ⟨a1, a2, a3, a4, a5, a6, a7, a8, fun s hs hbt => ?_⟩
        rw [b5, h3, if_neg (by omega), if_neg (by omega)]
        exact a9 s hs hbt
