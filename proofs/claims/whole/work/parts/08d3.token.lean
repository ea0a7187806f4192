/-! ===== both readers take the same token ===== -/
def nt_wo (r : nt_T) : Int64 := nt_mk (r 0 130) (r 0 230)
def TOK (k t ta b : Nat) (r : nt_T) : Prop := (k = 21 ∧ r 0 28 = 0) ∨ (k = 22 ∧ r 0 28 = 4) ∨ (∃ v, v < 10000 ∧ k = 32 + v ∧ r 0 28 = 2 ∧ nt_wo r = lN v) ∨ (∃ s, s < 8 ∧ k = 12 + s ∧ r 0 28 = 3 ∧ nt_wo r = lN (SG s)) ∨ (r 0 28 = 1 ∧ (k < 12 ∨ k = 22) ∧ (∀ w, w < 12 → (k = w ↔ WMt t ta b r w)) ∧ ∀ o, ta ≤ o → o < b → ∃ c, 97 ≤ c ∧ c < 123 ∧ r 1 (160 * t + o) = nI c)
theorem q_letters {N t ta : Nat} {g r : nt_T} (h : nt_in0 N t g r) (hg : g 10 2 = nI ta) (hr : r 0 27 = nI ta) (ha : ta ≤ N) : ∃ g' r' b, nt_it (fun z => bRd_word_0 z) nt_fu g = some g' ∧ nt_it (fun z => bMo_next_100 z) nt_fu r = some r' ∧ (∀ k j, ¬ (k = 10 ∧ j = 2) → g' k j = g k j) ∧ (∀ k j, ¬ (k = 0 ∧ j = 27) → r' k j = r k j) ∧ ta ≤ b ∧ b ≤ N ∧ g' 10 2 = nI b ∧ r' 0 27 = nI b ∧ (∀ o, ta ≤ o → o < b → ∃ c, 97 ≤ c ∧ c < 123 ∧ r 1 (160 * t + o) = nI c) ∧ (ta < N → (∃ c, 97 ≤ c ∧ c < 123 ∧ r 1 (160 * t + ta) = nI c) → ta < b) := by
  have hN := h.1
  have H : ∃ x y, nt_it (fun z => bRd_word_0 z) nt_fu g = some x ∧ nt_it (fun z => bMo_next_100 z) nt_fu r = some y ∧ ∃ b, (∀ k j, ¬ (k = 10 ∧ j = 2) → x k j = g k j) ∧ (∀ k j, ¬ (k = 0 ∧ j = 27) → y k j = r k j) ∧ ta ≤ b ∧ b ≤ N ∧ x 10 2 = nI b ∧ y 0 27 = nI b ∧ (∀ o, ta ≤ o → o < b → ∃ c, 97 ≤ c ∧ c < 123 ∧ r 1 (160 * t + o) = nI c) ∧ (ta < N → (∃ c, 97 ≤ c ∧ c < 123 ∧ r 1 (160 * t + ta) = nI c) → ta < b) := by
    refine q_both (fun i x y => (∀ k j, ¬ (k = 10 ∧ j = 2) → x k j = g k j) ∧ (∀ k j, ¬ (k = 0 ∧ j = 27) → y k j = r k j) ∧ x 10 2 = nI (ta + i) ∧ y 0 27 = nI (ta + i) ∧ ∀ o, ta ≤ o → o < ta + i → ∃ c, 97 ≤ c ∧ c < 123 ∧ r 1 (160 * t + o) = nI c) _ (N - ta) (by omega) ⟨fun _ _ _ => rfl, fun _ _ _ => rfl, hg, hr, fun o h1 h2 => absurd h2 (by omega)⟩ ?_ ?_
    · intro i x y hi hI
      obtain ⟨e1, e2, e3, e4, e5⟩ := hI
      have h' := in0_E (g' := x) (r' := y) (fun k j q => e1 k j (by omega)) (fun k j q => e2 k j (by omega)) h
      obtain ⟨et, c, hc, ec⟩ := h'.2.2.2.2.2 (ta + i) (by omega)
      have ec2 : r 1 (160 * t + (ta + i)) = nI c := by rw [← ec]; exact (e2 1 _ (by omega)).symm
      obtain ⟨l1, -, l3, -⟩ := q_byte4 hc x y
      unfold bRd_word_0 bMo_next_100
      rw [e3, e4, h'.2.2.1, if_neg (nI_ge (show ta + i < N by omega) (by omega)), q_byteAt h' (by omega), q_b1]
      simp only [q_in (show ta + i < 160 by omega) (show 160 < 2 ^ 31 by omega), q_gt, nI_clamp (show ta + i < 2 ^ 31 by omega), et, if_pos (show ta + i < N by omega), q_lt, nI_1, ec, l1, l3, q_b1]
      by_cases c1 : 97 ≤ c ∧ c ≤ 122
      · rw [decide_eq_true c1, if_neg (show ¬ bI true = 0 by decide), if_neg (show ¬ bI true = 0 by decide)]
        refine Or.inl ⟨_, _, rfl, rfl, fun k j q => by rw [st_slot _ _ (by omega)]; exact e1 k j q, fun k j q => by rw [st_slot _ _ (by omega)]; exact e2 k j q, st_eq _ _ _ _, st_eq _ _ _ _, fun o h1 h2 => ?_⟩
        by_cases c2 : o = ta + i
        · subst c2
          exact ⟨c, c1.1, by omega, ec2⟩
        · exact e5 o h1 (by omega)
      · rw [decide_eq_false c1, if_pos (show bI false = 0 from rfl), if_pos (show bI false = 0 from rfl)]
        refine Or.inr ⟨x, y, rfl, rfl, ta + i, e1, e2, by omega, by omega, e3, e4, e5, fun _ hl => ?_⟩
        by_cases c2 : i = 0
        · subst c2
          obtain ⟨c', h1, h2, h3⟩ := hl
          rw [Nat.add_zero, h3] at ec2
          have := (nI_eq (by omega) (by omega)).mp ec2
          omega
        · omega
    · intro x y hI
      obtain ⟨e1, e2, e3, e4, e5⟩ := hI
      have h' := in0_E (g' := x) (r' := y) (fun k j q => e1 k j (by omega)) (fun k j q => e2 k j (by omega)) h
      have eN : ta + (N - ta) = N := by omega
      rw [eN] at e3 e4 e5
      refine ⟨x, y, ?_, ?_, N, e1, e2, ha, Nat.le_refl N, e3, e4, e5, fun hl _ => hl⟩
      · unfold bRd_word_0
        rw [e3, h'.2.2.1, if_pos (nI_le (by omega) (by omega))]
      · unfold bMo_next_100
        rw [e4, q_byteAt h' (by omega), if_neg (by omega), q_b1, (q_neg y).1, q_b1, if_pos (show bI false = 0 from rfl)]
  obtain ⟨x, y, e1, e2, b, f⟩ := H
  exact ⟨x, y, b, e1, e2, f⟩
theorem q_digits {N t ta : Nat} {g r : nt_T} (h : nt_in0 N t g r) (hg : g 10 2 = nI ta) (hr : r 0 27 = nI ta) (ht : g 10 4 = nI ta) (ha : ta ≤ N) (hw : nt_wo r = lN 0) : ∃ v g' r' b, nt_it (fun z => bRd_numeral_2 z.1 z.2) nt_fu ((0 : Int32), g) = some (nI v, g') ∧ nt_it (fun z => bMo_next_160 z.1 z.2) nt_fu ((0 : Int32), r) = some (nI (b - ta), r') ∧ (∀ k j, ¬ (k = 10 ∧ j = 2) → g' k j = g k j) ∧ (∀ k j, ¬ (k = 0 ∧ (j = 27 ∨ j = 130 ∨ j = 230)) → r' k j = r k j) ∧ ta ≤ b ∧ b ≤ N ∧ g' 10 2 = nI b ∧ r' 0 27 = nI b ∧ v < 10000 ∧ nt_wo r' = lN v ∧ (ta < N → (∃ c, 48 ≤ c ∧ c ≤ 57 ∧ r 1 (160 * t + ta) = nI c) → ta < b) := by
  have hN := h.1
  have H : ∃ x y, nt_it (fun z => bRd_numeral_2 z.1 z.2) nt_fu ((0 : Int32), g) = some x ∧ nt_it (fun z => bMo_next_160 z.1 z.2) nt_fu ((0 : Int32), r) = some y ∧ ∃ v b, x.1 = nI v ∧ y.1 = nI (b - ta) ∧ (∀ k j, ¬ (k = 10 ∧ j = 2) → x.2 k j = g k j) ∧ (∀ k j, ¬ (k = 0 ∧ (j = 27 ∨ j = 130 ∨ j = 230)) → y.2 k j = r k j) ∧ ta ≤ b ∧ b ≤ N ∧ x.2 10 2 = nI b ∧ y.2 0 27 = nI b ∧ v < 10000 ∧ nt_wo y.2 = lN v ∧ (ta < N → (∃ c, 48 ≤ c ∧ c ≤ 57 ∧ r 1 (160 * t + ta) = nI c) → ta < b) := by
    refine q_both (fun i s u => ∃ v x y, s = (nI v, x) ∧ u = (nI i, y) ∧ (∀ k j, ¬ (k = 10 ∧ j = 2) → x k j = g k j) ∧ (∀ k j, ¬ (k = 0 ∧ (j = 27 ∨ j = 130 ∨ j = 230)) → y k j = r k j) ∧ x 10 2 = nI (ta + i) ∧ y 0 27 = nI (ta + i) ∧ (v < 10 ^ (if i ≤ 4 then i else 4)) ∧ nt_wo y = lN v) _ (N - ta) (by omega) ⟨0, g, r, rfl, rfl, fun _ _ _ => rfl, fun _ _ _ => rfl, hg, hr, by simp, hw⟩ ?_ ?_
    · intro i s u hi hI
      obtain ⟨v, x, y, rfl, rfl, e1, e2, e3, e4, hv, ew⟩ := hI
      have h' := in0_E (g' := x) (r' := y) (fun k j q => e1 k j (by omega)) (fun k j q => e2 k j (by omega)) h
      obtain ⟨et, c, hc, ec⟩ := h'.2.2.2.2.2 (ta + i) (by omega)
      have ec2 : r 1 (160 * t + (ta + i)) = nI c := by rw [← ec]; exact (e2 1 _ (by omega)).symm
      have h4 : x 10 4 = nI ta := by rw [e1 10 4 (by omega)]; exact ht
      obtain ⟨-, l2, -, l4⟩ := q_byte4 hc x y
      show (∃ s' u', bRd_numeral_2 (nI v) x = some (.inl s') ∧ bMo_next_160 (nI i) y = some (.inl u') ∧ _) ∨ ∃ s' u', bRd_numeral_2 (nI v) x = some (.inr s') ∧ bMo_next_160 (nI i) y = some (.inr u') ∧ _
      unfold bRd_numeral_2 bMo_next_160 jRd_numeral_62 jMo_next_216
      rw [e3, e4, h'.2.2.1, if_neg (nI_ge (show ta + i < N by omega) (by omega)), q_byteAt h' (by omega), q_b1, h4, pk_sub (show ta ≤ ta + i by omega)]
      simp only [q_in (show ta + i < 160 by omega) (show 160 < 2 ^ 31 by omega), q_gt, nI_clamp (show ta + i < 2 ^ 31 by omega), et, if_pos (show ta + i < N by omega), q_lt, nI_1, ec, l2, l4, q_b1, show ta + i - ta = i by omega]
      by_cases c1 : 48 ≤ c ∧ c ≤ 57
      · rw [decide_eq_true c1, if_neg (show ¬ bI true = 0 by decide), if_neg (show ¬ bI true = 0 by decide)]
        left
        have s27 : ∀ w : Int64, (nt_stl y 0 30 w) 0 27 + 1 = nI (ta + i + 1) := fun w => by rw [stl_app, if_neg (by omega), if_neg (by omega), e4, nI_1]
        have wo : ∀ (w : Int64) (q : Int32), nt_wo (nt_st (nt_stl y 0 30 w) 0 27 q) = w := fun w q => by
          unfold nt_wo
          rw [st_slot _ _ (by omega), st_slot _ _ (by omega)]
          exact stl_mk y w
        have fr : ∀ (w : Int64) (q : Int32) (k j : Nat), ¬ (k = 0 ∧ (j = 27 ∨ j = 130 ∨ j = 230)) → (nt_st (nt_stl y 0 30 w) 0 27 q) k j = r k j := fun w q k j z => by
          rw [st_slot _ _ (by omega), stl_app, if_neg (by omega), if_neg (by omega)]
          exact e2 k j z
        by_cases c2 : 4 ≤ i
        · rw [if_pos (show (4 : Int32) ≤ nI i from nI_le (a := 4) c2 (by omega)), if_pos (show (4 : Int32) ≤ nI i from nI_le (a := 4) c2 (by omega)), s27]
          refine ⟨_, _, rfl, rfl, v, _, _, rfl, rfl, fun k j q => by rw [st_slot _ _ (by omega)]; exact e1 k j q, fr _ _, st_eq _ _ _ _, st_eq _ _ _ _, ?_, by rw [wo]; exact ew⟩
          rw [show (if i + 1 ≤ 4 then i + 1 else 4) = 4 by rw [if_neg (by omega)]]
          have : (if i ≤ 4 then i else 4) = 4 := by
            by_cases c : i ≤ 4
            · rw [if_pos c]; omega
            · rw [if_neg c]
          rw [this] at hv
          exact hv
        · have c2' : ¬ (4 : Int32) ≤ nI i := nI_ge (b := 4) (by omega) (by omega)
          rw [if_neg c2', if_neg c2', s27]
          have p4 : 10 ^ i ≤ 1000 := by
            have := Nat.pow_le_pow_right (show 0 < 10 by omega) (show i ≤ 3 by omega)
            omega
          rw [if_pos (show i ≤ 4 by omega)] at hv
          have en : ((10 : Int32) * nI v + nI c) - (48 : Int32) = nI (10 * v + c - 48) := by
            rw [show (10 : Int32) = nI 10 from rfl, pk_mul, nI_add, show (48 : Int32) = nI 48 from rfl, pk_sub (by omega)]
          have el : ((10 : Int64) * nt_mk (y 0 130) (y 0 230) + Int32.toInt64 (nI c)) - (48 : Int64) = lN (10 * v + c - 48) := by
            rw [show nt_mk (y 0 130) (y 0 230) = lN v from ew, nI_l (show c < 2 ^ 31 by omega), show (10 : Int64) = lN 10 from rfl, lN_mul, lN_add, show (48 : Int64) = lN 48 from rfl, lN_sub (by omega)]
          rw [en, el]
          refine ⟨_, _, rfl, rfl, 10 * v + c - 48, _, _, rfl, rfl, fun k j q => by rw [st_slot _ _ (by omega)]; exact e1 k j q, fr _ _, st_eq _ _ _ _, st_eq _ _ _ _, ?_, wo _ _⟩
          rw [if_pos (show i + 1 ≤ 4 by omega), Nat.pow_succ]
          omega
      · rw [decide_eq_false c1, if_pos (show bI false = 0 from rfl), if_pos (show bI false = 0 from rfl)]
        right
        refine ⟨_, _, rfl, rfl, v, ta + i, rfl, by rw [show ta + i - ta = i by omega], e1, e2, by omega, by omega, e3, e4, ?_, ew, fun _ hl => ?_⟩
        · have : 10 ^ (if i ≤ 4 then i else 4) ≤ 10 ^ 4 := Nat.pow_le_pow_right (by omega) (by split <;> omega)
          omega
        · by_cases c2 : i = 0
          · subst c2
            obtain ⟨c', h1, h2, h3⟩ := hl
            rw [Nat.add_zero, h3] at ec2
            have := (nI_eq (by omega) (by omega)).mp ec2
            omega
          · omega
    · intro s u hI
      obtain ⟨v, x, y, rfl, rfl, e1, e2, e3, e4, hv, ew⟩ := hI
      have h' := in0_E (g' := x) (r' := y) (fun k j q => e1 k j (by omega)) (fun k j q => e2 k j (by omega)) h
      have eN : ta + (N - ta) = N := by omega
      rw [eN] at e3 e4
      refine ⟨(nI v, x), (nI (N - ta), y), ?_, ?_, v, N, rfl, rfl, e1, e2, ha, Nat.le_refl N, e3, e4, ?_, ew, fun hl _ => hl⟩
      · show bRd_numeral_2 (nI v) x = _
        unfold bRd_numeral_2
        rw [e3, h'.2.2.1, if_pos (nI_le (by omega) (by omega))]
      · show bMo_next_160 (nI (N - ta)) y = _
        unfold bMo_next_160
        rw [e4, q_byteAt h' (by omega), if_neg (by omega), q_b1, (q_neg y).2, q_b1, if_pos (show bI false = 0 from rfl)]
      · have : 10 ^ (if N - ta ≤ 4 then N - ta else 4) ≤ 10 ^ 4 := Nat.pow_le_pow_right (by omega) (by split <;> omega)
        omega
  obtain ⟨⟨x1, x⟩, ⟨y1, y⟩, e1, e2, v, b, f1, f2, f⟩ := H
  have f1 : x1 = nI v := f1
  have f2 : y1 = nI (b - ta) := f2
  subst f1 f2
  exact ⟨v, x, y, b, e1, e2, f⟩
