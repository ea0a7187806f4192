/-! ===== one part of a text ===== -/
theorem q_prt {N t a ta k cs w : Nat} {nm : Nat → Int32} {g r : nt_T} (hw : w < 12) (h : nt_ps N t a ta k 5 cs nm g r) : ∃ b g' v r', (∀ (β : Type) (K : Int32 → nt_T → Option β), (nt_b2 (fRd_takes (nI w) g) fun r9 g10 => (if r9 = 0 then K 0 g10 else (nt_b2 (fRd_readsLevel (0 : Int32) g10) fun r13 g14 => (if r13 = 0 then K 0 g14 else (nt_b2 (fRd_takes (14 : Int32) g14) fun r17 g18 => (if r17 = 0 then K 0 g18 else K 1 g18)))))) = K (bI b) g') ∧ fMo_part (bI (decide (k = w))) r = some (v, r') ∧ nt_pM r r' ∧ ((b = true ∧ ∃ a' ta' k' n, nt_ps N t a' ta' k' 5 (cs + n) nm g' r' ∧ nt_pG cs g g' ∧ PUSH nm (g' 12) cs n 31 v) ∨ (b = false ∧ nt_FL g' r' ∧ nt_pG 0 g g')) := by
  have hk : g 10 3 = nI k := h.1.2.2.2.2.2.1
  have hkl : k < 11000 := h.1.2.2.2.2.2.2.2.2.2.2
  have z0 : ¬ (1 : Int32) = 0 := by decide
  unfold fMo_part jMo_part_8 jMo_part_19 jMo_part_34 jMo_part_48 fRd_takes
  by_cases c : k = w
  · subst c
    obtain ⟨g5, r5, a5, ta5, k5, e1, e2, f1, f2, f3, f4⟩ := q_stepP h (by omega) (by omega)
    rw [decide_eq_true rfl, if_neg (show ¬ bI true = 0 by decide), if_pos h.2.1, e2, q_b1, if_pos f1.2.1]
    have hSub := (sim_all 5).1 60 60 (by omega) (by omega) N t a5 ta5 k5 cs nm g5 r5 f1
    have hSub : nt_res N t ta5 5 cs nm g5 r5 31 (fRd_readsLevel (0 : Int32) g5) (fMo_either r5) := hSub
    rcases hSub with ⟨g6, r6, v, a6, ta6, k6, n, e3, e4, p1, p2, p3, p4, p5, p6⟩ | ⟨g6, r6, v, e3, e4, p1, p2, p3⟩
    · have hk6 : g6 10 3 = nI k6 := p1.1.2.2.2.2.2.1
      have hkl6 : k6 < 11000 := p1.1.2.2.2.2.2.2.2.2.2.2
      have s2 : fMo_isSign (59 : Int32) r6 = some (bI (decide (k6 = 14))) := q_isSign p1.1 p1.2.1 (s := 2) (by omega)
      rw [e4, q_b2, s2, q_b1]
      by_cases c2 : k6 = 14
      · subst c2
        obtain ⟨g7, r7, a7, ta7, k7, e5, e6, u1, u2, u3, u4⟩ := q_stepP p1 (by omega) (by omega)
        rw [decide_eq_true rfl, if_neg (show ¬ bI true = 0 by decide), if_pos p1.2.1, e6, q_b1]
        refine ⟨true, g7, v, r7, fun β K => ?_, rfl, pM_tr (kM_p f3) (pM_tr p3 (kM_p u3)), Or.inl ⟨rfl, a7, ta7, k7, n, u1, pG_tr (Nat.le_refl cs) (kG_p cs f2) (pG_tr (Nat.le_refl cs) p2 (kG_p cs u2)), ?_⟩⟩
        · rw [hk, if_pos rfl, e1, q_b1, q_b2, if_neg z0, e3, q_b2, if_neg z0, hk6, if_pos (show nI 14 = (14 : Int32) from rfl), e5, q_b1, q_b2, if_neg z0]
          rfl
        · rw [show g7 12 = g6 12 from funext (fun j => u2 12 j (by omega))]
          exact p6
      · obtain ⟨r7, e5, w1, w2, w3⟩ := q_fail p1
        have zb : ¬ r7 0 32 = 0 := by rw [w1.1]; decide
        rw [decide_eq_false c2, if_pos (show bI false = 0 from rfl), e5, q_b1, if_neg zb]
        refine ⟨false, g6, v, r7, fun β K => ?_, rfl, pM_tr (kM_p f3) (pM_tr p3 w2), Or.inr ⟨rfl, w1, pG_tr (Nat.le_refl 0) (pG_0 (kG_p cs f2)) (pG_0 p2)⟩⟩
        rw [hk, if_pos rfl, e1, q_b1, q_b2, if_neg z0, e3, q_b2, if_neg z0, hk6, if_neg (show ¬ nI k6 = (14 : Int32) from fun q => c2 ((nI_eq (a := k6) (b := 14) (by omega) (by omega)).mp q)), q_b2, if_pos rfl]
        rfl
    · have zb : ¬ r6 0 32 = 0 := by rw [p1.1]; decide
      rw [e4, q_b2, bad_sign p1.1, q_b1, if_pos rfl, bad_fail p1.1, q_b1, if_neg zb]
      refine ⟨false, g6, v, r6, fun β K => ?_, rfl, pM_tr (kM_p f3) p3, Or.inr ⟨rfl, p1, pG_tr (Nat.le_refl 0) (pG_0 (kG_p cs f2)) p2⟩⟩
      rw [hk, if_pos rfl, e1, q_b1, q_b2, if_neg z0, e3, q_b2, if_pos rfl]
      rfl
  · obtain ⟨r7, e5, w1, w2, w3⟩ := q_fail h
    have zb : ¬ r7 0 32 = 0 := by rw [w1.1]; decide
    rw [decide_eq_false c, if_pos (show bI false = 0 from rfl), e5, q_b1, if_neg zb, if_neg zb, bad_sign w1.1, q_b1, if_pos rfl, bad_fail w1.1, q_b1, if_neg zb]
    refine ⟨false, g, 0, r7, fun β K => ?_, rfl, w2, Or.inr ⟨rfl, w1, pG_rf 0 g⟩⟩
    rw [hk, if_neg (show ¬ nI k = nI w from fun q => c ((nI_eq (by omega) (by omega)).mp q)), q_b2, if_pos rfl]
    rfl
