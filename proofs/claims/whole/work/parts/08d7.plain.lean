/-! ===== both readers side by side: what is kept; one plain token ===== -/
def nt_ps (N t a ta k d cs : Nat) (nm : Nat → Int32) (g r : nt_T) : Prop := nt_rs N t a ta k g r ∧ r 0 32 = 0 ∧ d ≤ 5 ∧ g 10 5 = nI (5 - d) ∧ r 0 31 = nI (5 - d) ∧ g 10 7 = nI cs ∧ cs ≤ ta ∧ (∀ j, j < 6 → r 0 (19 + j) = nm j) ∧ ∀ j, j < cs → ∃ c, c < 11000 ∧ g 12 j = nI c
def nt_pG (cs : Nat) (g g' : nt_T) : Prop := (∀ k j, ¬ (k = 10 ∧ (2 ≤ j ∧ j ≤ 5 ∨ j = 7)) → k ≠ 12 → g' k j = g k j) ∧ ∀ j, j < cs → g' 12 j = g 12 j
def nt_pM (r r' : nt_T) : Prop := ∀ k j, ¬ (k = 0 ∧ (27 ≤ j ∧ j ≤ 33 ∨ j = 130 ∨ j = 230)) → r' k j = r k j
theorem pG_rf (cs : Nat) (g : nt_T) : nt_pG cs g g := ⟨fun _ _ _ _ => rfl, fun _ _ => rfl⟩
theorem pM_rf (r : nt_T) : nt_pM r r := fun _ _ _ => rfl
theorem pG_tr {cs cs' : Nat} {g g' g'' : nt_T} (hc : cs ≤ cs') (h : nt_pG cs g g') (h' : nt_pG cs' g' g'') : nt_pG cs g g'' := ⟨fun k j a b => (h'.1 k j a b).trans (h.1 k j a b), fun j hj => (h'.2 j (by omega)).trans (h.2 j hj)⟩
theorem pM_tr {r r' r'' : nt_T} (h : nt_pM r r') (h' : nt_pM r' r'') : nt_pM r r'' := fun k j a => (h' k j a).trans (h k j a)
theorem kG_p {g g' : nt_T} (cs : Nat) (h : nt_kG g g') : nt_pG cs g g' := ⟨fun k j a b => h k j (by omega), fun j hj => h 12 j (by omega)⟩
theorem kM_p {r r' : nt_T} (h : nt_kM r r') : nt_pM r r' := fun k j a => h k j (by omega)
def nt_FL (g r : nt_T) : Prop := r 0 32 = 1 ∧ ∃ ta cs, ta ≤ 160 ∧ g 10 4 = nI ta ∧ r 0 33 = nI ta ∧ cs ≤ 160 ∧ g 10 7 = nI cs
def nt_res (N t ta d cs : Nat) (nm : Nat → Int32) (g r : nt_T) (M : Nat) (x y : Option (Int32 × nt_T)) : Prop :=
  (∃ g' r' v a' ta' k' n, x = some (1, g') ∧ y = some (v, r') ∧ nt_ps N t a' ta' k' d (cs + n) nm g' r' ∧ nt_pG cs g g' ∧ nt_pM r r' ∧ ta < ta' ∧ ta + n ≤ ta' ∧ PUSH nm (g' 12) cs n M v) ∨
  (∃ g' r' v, x = some (0, g') ∧ y = some (v, r') ∧ nt_FL g' r' ∧ nt_pG 0 g g' ∧ nt_pM r r')
theorem TOK_4 {k t ta a : Nat} {r : nt_T} (h : TOK k t ta a r) (hk : k ≠ 22) : ¬ r 0 28 = 4 := by
  rcases h with ⟨_, e⟩ | ⟨e, _⟩ | ⟨_, _, _, e, _⟩ | ⟨_, _, _, e, _⟩ | ⟨e, _⟩
  · rw [e]; decide
  · exact absurd e hk
  · rw [e]; decide
  · rw [e]; decide
  · rw [e]; decide
theorem q_stepP {N t a ta k d cs : Nat} {nm : Nat → Int32} {g r : nt_T} (h : nt_ps N t a ta k d cs nm g r) (h1 : k ≠ 21) (h2 : k ≠ 22) : ∃ g' r' a' ta' k', fRd_step g = some g' ∧ fMo_next r = some r' ∧ nt_ps N t a' ta' k' d cs nm g' r' ∧ nt_kG g g' ∧ nt_kM r r' ∧ ta < ta' := by
  obtain ⟨hs, hb, hd, hg5, hr31, hg7, hcs, hnm, hcv⟩ := h
  obtain ⟨h0, ha, ha2, hta, hta2, hk, hT, hle, haN, hne, hkl⟩ := hs
  obtain ⟨g', r', a', ta', k', e1, e2, f1, f2, f3, f4⟩ := q_step h0 ha (ha2 (TOK_4 hT h2)) haN
  have hne : ta < a := hne.resolve_left h1
  refine ⟨g', r', a', ta', k', e1, e2, ⟨f4, by rw [f2 0 32 (by omega)]; exact hb, hd, by rw [f1 10 5 (by omega)]; exact hg5, by rw [f2 0 31 (by omega)]; exact hr31, by rw [f1 10 7 (by omega)]; exact hg7, by omega, fun j hj => by rw [f2 0 (19 + j) (by omega)]; exact hnm j hj, fun j hj => by rw [f1 12 j (by omega)]; exact hcv j hj⟩, f1, f2, by omega⟩
theorem q_write {x : Int32} {cs : Nat} {g : nt_T} (h7 : g 10 7 = nI cs) (hc : cs < 160) : fRd_write x g = some (nt_st (nt_st g 12 cs x) 10 7 (nI (cs + 1))) := by
  unfold fRd_write
  have c1 : ¬ (160 : Int32) ≤ nI cs := nI_ge (b := 160) hc (by omega)
  rw [h7, if_neg c1, q_gd (q_in hc (by omega)), nI_clamp (show cs < 2 ^ 31 by omega), q_lt, q_lt, st_slot _ _ (by omega), h7, nI_1]
/-- writing one more code -/
theorem ps_write {N t a ta k d cs c : Nat} {nm : Nat → Int32} {g r : nt_T} (h : nt_ps N t a ta k d cs nm g r) (hc : c < 11000) (hl : cs < ta) : nt_ps N t a ta k d (cs + 1) nm (nt_st (nt_st g 12 cs (nI c)) 10 7 (nI (cs + 1))) r ∧ nt_pG cs g (nt_st (nt_st g 12 cs (nI c)) 10 7 (nI (cs + 1))) ∧ (nt_st (nt_st g 12 cs (nI c)) 10 7 (nI (cs + 1))) 12 cs = nI c := by
  obtain ⟨hs, hb, hd, hg5, hr31, hg7, hcs, hnm, hcv⟩ := h
  obtain ⟨h0, ha, ha2, hta, hta2, hk, hT, hle, haN, hne, hkl⟩ := hs
  have z : ∀ j, j ≠ 7 → (nt_st (nt_st g 12 cs (nI c)) 10 7 (nI (cs + 1))) 10 j = g 10 j := fun j hj => by rw [st_slot _ _ (by omega), st_slot _ _ (by omega)]
  have z11 : (nt_st (nt_st g 12 cs (nI c)) 10 7 (nI (cs + 1))) 11 = g 11 := by rw [st_row _ _ _ (by omega), st_row _ _ _ (by omega)]
  refine ⟨⟨⟨?_, by rw [z 2 (by omega)]; exact ha, ha2, by rw [z 4 (by omega)]; exact hta, hta2, by rw [z 3 (by omega)]; exact hk, hT, hle, haN, hne, hkl⟩, hb, hd, by rw [z 5 (by omega)]; exact hg5, hr31, st_eq _ _ _ _, by omega, hnm, fun j hj => ?_⟩, ⟨fun k' j h1 h2 => by rw [st_slot _ _ (by omega), st_slot _ _ (by omega)], fun j hj => by rw [st_slot _ _ (by omega), st_slot _ _ (by omega)]⟩, by rw [st_slot _ _ (by omega), st_eq]⟩
  · unfold nt_in0 at h0 ⊢
    rw [z 1 (by omega), z11]
    exact h0
  · rw [st_slot _ _ (by omega)]
    by_cases e : j = cs
    · subst e
      exact ⟨c, hc, st_eq _ _ _ _⟩
    · rw [st_slot _ _ (by omega)]
      exact hcv j (by omega)
theorem q_fail {N t a ta k d cs : Nat} {nm : Nat → Int32} {g r : nt_T} (h : nt_ps N t a ta k d cs nm g r) : ∃ r', fMo_fail r = some r' ∧ nt_FL g r' ∧ nt_pM r r' ∧ r' 0 31 = r 0 31 := by
  obtain ⟨hs, hb, hd, hg5, hr31, hg7, hcs, hnm, hcv⟩ := h
  obtain ⟨h0, ha, ha2, hta, hta2, hk, hT, hle, haN, hne, hkl⟩ := hs
  have hN := h0.1
  unfold fMo_fail
  rw [if_pos hb, q_lt, q_lt]
  refine ⟨_, rfl, ⟨by rw [st_slot _ _ (by omega), st_eq], ta, cs, by omega, hta, by rw [st_eq, st_slot _ _ (by omega)]; exact hta2, by omega, hg7⟩, fun k' j q => by rw [st_slot _ _ (by omega), st_slot _ _ (by omega)], by rw [st_slot _ _ (by omega), st_slot _ _ (by omega)]⟩
theorem q_wn (w : Nat) (hw : w < 12) {N t a ta k : Nat} {g r : nt_T} (h : nt_rs N t a ta k g r) (hb : r 0 32 = 0) (x1 x2 x3 x4 x5 x6 x7 x8 : Int32) (e : nI (WC w 0) = x1 ∧ nI (WC w 1) = x2 ∧ nI (WC w 2) = x3 ∧ nI (WC w 3) = x4 ∧ nI (WC w 4) = x5 ∧ nI (WC w 5) = x6 ∧ nI (WC w 6) = x7 ∧ nI (WC w 7) = x8) : fMo_isWord x1 x2 x3 x4 x5 x6 x7 x8 r = some (bI (decide (k = w))) := by
  obtain ⟨e1, e2, e3, e4, e5, e6, e7, e8⟩ := e
  rw [← e1, ← e2, ← e3, ← e4, ← e5, ← e6, ← e7, ← e8]
  exact q_isWord h hb hw
theorem q_name {N t a ta k d cs : Nat} {nm : Nat → Int32} {g r : nt_T} (h : nt_ps N t a ta k d cs nm g r) : (k < 6 ∧ fMo_name r = some (nm k, r)) ∨ (¬ k < 6 ∧ ∃ r', fMo_name r = some (0, r') ∧ nt_FL g r' ∧ nt_pM r r' ∧ r' 0 31 = r 0 31) := by
  have hs := h.1
  have hb := h.2.1
  have hnm := h.2.2.2.2.2.2.2.1
  unfold fMo_name
  rw [q_wn 0 (by omega) hs hb _ _ _ _ _ _ _ _ (by decide +kernel), q_b1, q_wn 1 (by omega) hs hb _ _ _ _ _ _ _ _ (by decide +kernel), q_b1, q_wn 2 (by omega) hs hb _ _ _ _ _ _ _ _ (by decide +kernel), q_b1, q_wn 3 (by omega) hs hb _ _ _ _ _ _ _ _ (by decide +kernel), q_b1, q_wn 4 (by omega) hs hb _ _ _ _ _ _ _ _ (by decide +kernel), q_b1, q_wn 5 (by omega) hs hb _ _ _ _ _ _ _ _ (by decide +kernel), q_b1]
  have F : bI false = 0 := rfl
  have T : ¬ bI true = 0 := by decide
  by_cases hk : k < 6
  · left
    refine ⟨hk, ?_⟩
    rcases (show k = 0 ∨ k = 1 ∨ k = 2 ∨ k = 3 ∨ k = 4 ∨ k = 5 by omega) with rfl | rfl | rfl | rfl | rfl | rfl
    · rw [if_neg (show ¬ bI (decide (0 = 0)) = 0 by decide)]; rw [← hnm 0 (by omega)]
    · rw [if_pos (show bI (decide (1 = 0)) = 0 by decide), if_neg (show ¬ bI (decide (1 = 1)) = 0 by decide)]; rw [← hnm 1 (by omega)]
    · rw [if_pos (show bI (decide (2 = 0)) = 0 by decide), if_pos (show bI (decide (2 = 1)) = 0 by decide), if_neg (show ¬ bI (decide (2 = 2)) = 0 by decide)]; rw [← hnm 2 (by omega)]
    · rw [if_pos (show bI (decide (3 = 0)) = 0 by decide), if_pos (show bI (decide (3 = 1)) = 0 by decide), if_pos (show bI (decide (3 = 2)) = 0 by decide), if_neg (show ¬ bI (decide (3 = 3)) = 0 by decide)]; rw [← hnm 3 (by omega)]
    · rw [if_pos (show bI (decide (4 = 0)) = 0 by decide), if_pos (show bI (decide (4 = 1)) = 0 by decide), if_pos (show bI (decide (4 = 2)) = 0 by decide), if_pos (show bI (decide (4 = 3)) = 0 by decide), if_neg (show ¬ bI (decide (4 = 4)) = 0 by decide)]; rw [← hnm 4 (by omega)]
    · rw [if_pos (show bI (decide (5 = 0)) = 0 by decide), if_pos (show bI (decide (5 = 1)) = 0 by decide), if_pos (show bI (decide (5 = 2)) = 0 by decide), if_pos (show bI (decide (5 = 3)) = 0 by decide), if_pos (show bI (decide (5 = 4)) = 0 by decide), if_neg (show ¬ bI (decide (5 = 5)) = 0 by decide)]; rw [← hnm 5 (by omega)]
  · right
    refine ⟨hk, ?_⟩
    obtain ⟨r', e, f1, f2, f3⟩ := q_fail h
    rw [decide_eq_false (show ¬ k = 0 by omega), decide_eq_false (show ¬ k = 1 by omega), decide_eq_false (show ¬ k = 2 by omega), decide_eq_false (show ¬ k = 3 by omega), decide_eq_false (show ¬ k = 4 by omega), decide_eq_false (show ¬ k = 5 by omega), if_pos F, if_pos F, if_pos F, if_pos F, if_pos F, if_pos F, e, q_b1]
    exact ⟨r', rfl, f1, f2, f3⟩
theorem pG_0 {cs : Nat} {g g' : nt_T} (h : nt_pG cs g g') : nt_pG 0 g g' := ⟨h.1, fun j hj => absurd hj (Nat.not_lt_zero j)⟩
