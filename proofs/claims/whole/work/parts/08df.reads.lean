/-! ===== a whole text ===== -/
theorem ps_13 {N t a ta k d cs i : Nat} {nm : Nat → Int32} {g r : nt_T} (x : Int32) (h : nt_ps N t a ta k d cs nm g r) : nt_ps N t a ta k d cs nm (nt_st g 13 i x) r := by
  unfold nt_ps nt_rs nt_in0 at h ⊢
  rw [st_row g i x (show (10 : Nat) ≠ 13 by omega), st_row g i x (show (11 : Nat) ≠ 13 by omega), st_row g i x (show (12 : Nat) ≠ 13 by omega)]
  exact h
/-- part i of the class's loop -/
theorem q_part3 {N t a ta k cs i : Nat} {nm : Nat → Int32} {g r : nt_T} (hi : i < 3) (h : nt_ps N t a ta k 5 cs nm g r) : ∃ b g' v r', bRd_reads_23 (1 : Int32) (nI i) g = some (.inl (bI b, nI (i + 1), g')) ∧ fMo_part (bI (decide (k = 9 + i))) r = some (v, r') ∧ nt_pM r r' ∧ ((b = true ∧ ∃ a' ta' k' n, nt_ps N t a' ta' k' 5 (cs + n) nm g' r' ∧ nt_pG cs (nt_st g 13 i (nI cs)) g' ∧ PUSH nm (g' 12) cs n 31 v) ∨ (b = false ∧ nt_FL g' r' ∧ nt_pG 0 (nt_st g 13 i (nI cs)) g')) := by
  obtain ⟨b, g', v, r', e1, e2, m, hh⟩ := q_prt (w := 9 + i) (by omega) (ps_13 (i := i) (nI cs) h)
  refine ⟨b, g', v, r', ?_, e2, m, hh⟩
  have e := e1 _ (fun c g' => (some (.inl (c, nI (i + 1), g')) : Option ((Int32 × Int32 × nt_T) ⊕ (Int32 × nt_T))))
  unfold bRd_reads_23
  rw [if_neg (show ¬ (3 : Int32) ≤ nI i from nI_ge (b := 3) hi (by omega)), if_neg (show ¬ (1 : Int32) = 0 by decide), q_gd (q_in hi (by omega)), q_lt, h.2.2.2.2.2.1, nI_clamp (show i < 2 ^ 31 by omega), show (9 : Int32) + nI i = nI (9 + i) from nI_add 9 i, nI_1]
  exact e
theorem reads_stop (x : Int32) (g : nt_T) (hx : x = 0 ∨ True) (i : Nat) (h : x = 0 ∨ i = 3) : bRd_reads_23 x (nI i) g = some (.inr (x, g)) := by
  unfold bRd_reads_23
  by_cases c : (3 : Int32) ≤ nI i
  · rw [if_pos c]
  · rw [if_neg c]
    rcases h with h | h
    · rw [if_pos h]
    · exact absurd (by rw [h]; decide) c
