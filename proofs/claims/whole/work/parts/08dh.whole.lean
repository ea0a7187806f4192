/-! ===== a whole text, read by both ===== -/
theorem pc_160 : ∀ t, t < 6 → (160 : Int32) * nI t = nI (160 * t) := by decide +kernel
theorem reads_both {N t : Nat} {nm : Nat → Int32} {g r : nt_T} (kd : Int32) (hN : N ≤ 160) (ht : t < 6) (h1 : g 10 1 = nI N) (h2 : r 2 t = nI N) (hb : ∀ j, j < N → g 11 j = r 1 (160 * t + j) ∧ ∃ c, c < 256 ∧ r 1 (160 * t + j) = nI c) (hnm : ∀ j, j < 6 → r 0 (19 + j) = nm j) : ∃ b g' v r', fRd_reads g = some (bI b, g') ∧ fMo_read (nI t) kd r = some (v, r') ∧ (∀ k j, ¬ (k = 0 ∧ (25 ≤ j ∧ j ≤ 33 ∨ j = 130 ∨ j = 230)) → r' k j = r k j) ∧ (∀ k j, ¬ (k = 10 ∧ (2 ≤ j ∧ j ≤ 5 ∨ j = 7)) → k ≠ 12 → k ≠ 13 → g' k j = g k j) ∧ ((b = true ∧ r' 0 32 = 0 ∧ ∃ n0 n1 n2 v0 v1 v2, n0 + n1 + n2 ≤ 160 ∧ g' 10 7 = nI (n0 + n1 + n2) ∧ g' 13 1 = nI n0 ∧ g' 13 2 = nI (n0 + n1) ∧ PUSH nm (g' 12) 0 n0 31 v0 ∧ PUSH nm (g' 12) n0 n1 31 v1 ∧ PUSH nm (g' 12) (n0 + n1) n2 31 v2 ∧ v = (if kd = 0 then v0 else if kd = 1 then v1 else v2) ∧ ∀ j, j < n0 + n1 + n2 → ∃ c, c < 11000 ∧ g' 12 j = nI c) ∨ (b = false ∧ nt_FL g' r')) := by
  have hG : nt_in0 N t (nt_st (nt_st (nt_st g 10 2 0) 10 5 0) 10 7 0) (nt_st (nt_st (nt_st (nt_st (nt_st r 0 25 (nI (160 * t))) 0 26 (nI N)) 0 27 0) 0 31 0) 0 32 0) := by
    refine ⟨hN, ht, ?_, ?_, ?_, fun j hj => ?_⟩
    · rw [st_slot _ _ (by omega), st_slot _ _ (by omega), st_slot _ _ (by omega)]; exact h1
    · rw [st_slot _ _ (by omega), st_slot _ _ (by omega), st_slot _ _ (by omega), st_slot _ _ (by omega), st_eq]
    · rw [st_slot _ _ (by omega), st_slot _ _ (by omega), st_slot _ _ (by omega), st_eq]
    · rw [st_slot _ _ (by omega), st_slot _ _ (by omega), st_slot _ _ (by omega), st_slot _ _ (by omega), st_slot _ _ (by omega), st_slot _ _ (by omega), st_slot _ _ (by omega), st_slot _ _ (by omega)]
      exact hb j hj
  obtain ⟨g4, r7, a', ta', k', e1, e2, kg, km, hta, hrs⟩ := q_step (a := 0) hG (by rw [st_slot _ _ (by omega), st_slot _ _ (by omega), st_eq]; rfl) (by rw [st_slot _ _ (by omega), st_slot _ _ (by omega), st_eq]; rfl) (Nat.zero_le _)
  have hps : nt_ps N t a' ta' k' 5 0 nm g4 r7 := by
    refine ⟨hrs, ?_, by omega, ?_, ?_, ?_, Nat.zero_le _, fun j hj => ?_, fun j hj => absurd hj (Nat.not_lt_zero j)⟩
    · rw [km 0 32 (by omega), st_eq]
    · rw [kg 10 5 (by omega), st_slot _ _ (by omega), st_eq]; rfl
    · rw [km 0 31 (by omega), st_slot _ _ (by omega), st_eq]; rfl
    · rw [kg 10 7 (by omega), st_eq]; rfl
    · rw [km 0 (19 + j) (by omega), st_slot _ _ (by omega), st_slot _ _ (by omega), st_slot _ _ (by omega), st_slot _ _ (by omega), st_slot _ _ (by omega)]; exact hnm j hj
  obtain ⟨b, g', v, r', f1, f2, f3, f4, f5⟩ := reads_loop hps kd
  refine ⟨b, g', v, r', ?_, ?_, fun k j q => ?_, fun k j q1 q2 q3 => ?_, f5⟩
  · unfold fRd_reads
    rw [q_lt, q_lt, q_lt, e1, q_b1]
    exact f1
  · unfold fMo_read
    rw [show (160 : Int32) * nI t = nI (160 * t) from pc_160 t ht, q_lt, q_gd (q_in ht (by omega)), nI_clamp (show t < 2 ^ 31 by omega), st_slot _ _ (show 2 ≠ 0 ∨ t ≠ 25 by omega), h2, q_lt, q_lt, q_lt, q_lt, e2, q_b1, q_wn 9 (by omega) hrs hps.2.1 108 105 107 101 115 0 0 0 (by decide), q_b1]
    exact f2
  · rw [f3 k j (by omega), km k j (by omega), st_slot _ _ (by omega), st_slot _ _ (by omega), st_slot _ _ (by omega), st_slot _ _ (by omega), st_slot _ _ (by omega)]
  · rw [f4 k j q1 q2 q3, kg k j (by omega), st_slot _ _ (by omega), st_slot _ _ (by omega), st_slot _ _ (by omega)]
