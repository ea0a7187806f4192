/-! ===== what the reference sees of a token ===== -/
theorem pc_wc0 : ∀ w, w < 12 → ∀ i, i < 8 → WL w ≤ i → WC w i = 0 := by decide +kernel
theorem pc_sgu : ∀ s, s < 8 → ∀ u, u < 8 → (SG s = SG u ↔ s = u) ∧ SG s < 100 := by decide +kernel
theorem q_isSign {N t a ta k : Nat} {g r : nt_T} (h : nt_rs N t a ta k g r) (hb : r 0 32 = 0) {s : Nat} (hs : s < 8) : fMo_isSign (nI (SG s)) r = some (bI (decide (k = 12 + s))) := by
  obtain ⟨-, -, -, -, -, -, hT, -⟩ := h
  have hsg := (pc_sgu s hs s hs).2
  unfold fMo_isSign
  rw [if_pos hb]
  rcases hT with ⟨hk, e⟩ | ⟨hk, e⟩ | ⟨v, hv, hk, e, ew⟩ | ⟨u, hu, hk, e, ew⟩ | ⟨e, hk, -⟩
  · have z : ¬ (0 : Int32) = 3 := by decide
    rw [e, if_neg z, decide_eq_false (by omega)]; rfl
  · have z : ¬ (4 : Int32) = 3 := by decide
    rw [e, if_neg z, decide_eq_false (by omega)]; rfl
  · have z : ¬ (2 : Int32) = 3 := by decide
    rw [e, if_neg z, decide_eq_false (by omega)]; rfl
  · have hsu := (pc_sgu u hu s hs)
    rw [e, if_pos rfl, show nt_mk (r 0 130) (r 0 230) = lN (SG u) from ew, nI_l (show SG s < 2 ^ 31 by omega)]
    by_cases q : u = s
    · subst q
      rw [if_pos ((lg_cmp_eq _ _).mpr rfl), decide_eq_true hk]; rfl
    · have : ¬ lg_cmp (lN (SG u)) (lN (SG s)) = 0 := fun z => q (hsu.1.mp ((lN_eq (by omega) (by omega)).mp ((lg_cmp_eq _ _).mp z)))
      rw [if_neg this, decide_eq_false (by omega)]; rfl
  · have z : ¬ (1 : Int32) = 3 := by decide
    rw [e, if_neg z, decide_eq_false (by omega)]; rfl
theorem q_isLetter {N t a ta k : Nat} {g r : nt_T} (h : nt_rs N t a ta k g r) (h4 : ¬ r 0 28 = 4) {i c : Nat} (hi : i < 9) (hc : c < 200) : fMo_isLetter (nI i) (nI c) r = some (bI (decide (if ta + i < a then r 1 (160 * t + (ta + i)) = nI c else c = 0))) := by
  obtain ⟨h0, -, h27, -, h29, -, -, hta, haN, -, -⟩ := h
  have hN := h0.1
  unfold fMo_isLetter
  rw [h27 h4, h29, nI_add]
  by_cases q : ta + i < a
  · simp only [if_pos q]
    rw [if_neg (nI_ge q (by omega)), q_byteAt h0 (by omega), if_pos (show ta + i < N by omega), q_b1]
    by_cases e : r 1 (160 * t + (ta + i)) = nI c
    · rw [if_pos e, decide_eq_true e]; rfl
    · rw [if_neg e, decide_eq_false e]; rfl
  · simp only [if_neg q]
    rw [if_pos (nI_le (by omega) (by omega))]
    by_cases e : c = 0
    · subst e
      rw [if_pos (show nI 0 = 0 from rfl), decide_eq_true rfl]; rfl
    · rw [if_neg (nI_ne0 (by omega) (by omega)), decide_eq_false e]; rfl
theorem WC_lt : ∀ w, w < 12 → ∀ i, i < 8 → WC w i < 200 := by decide +kernel
theorem q_isWord {N t a ta k : Nat} {g r : nt_T} (h : nt_rs N t a ta k g r) (hb : r 0 32 = 0) {w : Nat} (hw : w < 12) : fMo_isWord (nI (WC w 0)) (nI (WC w 1)) (nI (WC w 2)) (nI (WC w 3)) (nI (WC w 4)) (nI (WC w 5)) (nI (WC w 6)) (nI (WC w 7)) r = some (bI (decide (k = w))) := by
  have hT := h.2.2.2.2.2.2.1
  unfold fMo_isWord
  rw [if_pos hb]
  rcases hT with ⟨hk, e⟩ | ⟨hk, e⟩ | ⟨v, hv, hk, e, ew⟩ | ⟨u, hu, hk, e, ew⟩ | ⟨e, hk, hkw, hlet⟩
  · have z : ¬ (0 : Int32) = 1 := by decide
    rw [e, if_neg z, decide_eq_false (by omega)]; rfl
  · have z : ¬ (4 : Int32) = 1 := by decide
    rw [e, if_neg z, decide_eq_false (by omega)]; rfl
  · have z : ¬ (2 : Int32) = 1 := by decide
    rw [e, if_neg z, decide_eq_false (by omega)]; rfl
  · have z : ¬ (3 : Int32) = 1 := by decide
    rw [e, if_neg z, decide_eq_false (by omega)]; rfl
  · have z4 : ¬ r 0 28 = 4 := by rw [e]; decide
    have hwl := (pc_let w hw).1
    obtain ⟨h0, h2, h27, h104, h29, -, -, hta, haN, hne, -⟩ := id h
    have hN := h0.1
    rw [if_pos e, h29, h27 z4, show (nI ta + (8 : Int32)) = nI (ta + 8) from nI_add ta 8]
    have hiff : (k = w) ↔ (a ≤ ta + 8 ∧ ∀ i, i < 8 → (if ta + i < a then r 1 (160 * t + (ta + i)) = nI (WC w i) else WC w i = 0)) := by
      rw [hkw w hw]
      constructor
      · intro hW
        have hW1 := hW.1
        refine ⟨by omega, fun i hi => ?_⟩
        by_cases q : ta + i < a
        · rw [if_pos q]
          exact hW.2 i (by omega)
        · rw [if_neg q]
          exact pc_wc0 w hw i hi (by omega)
      · intro ⟨q1, q2⟩
        have hl : ∀ i, i < 8 → (ta + i < a ↔ i < WL w) := by
          intro i hi
          have := q2 i hi
          constructor
          · intro q
            rw [if_pos q] at this
            obtain ⟨c, c1, c2, c3⟩ := hlet (ta + i) (by omega) q
            rw [c3] at this
            have e2 := (nI_eq (by omega) (by have := WC_lt w hw i hi; omega)).mp this
            refine Decidable.byContradiction (fun z => ?_)
            have := pc_wc0 w hw i hi (by omega)
            omega
          · intro q
            refine Decidable.byContradiction (fun z => ?_)
            rw [if_neg z] at this
            have := (pc_let w hw).2 i q
            omega
        have h7 : WL w ≤ 6 := by
          have : ∀ w, w < 12 → WL w ≤ 6 := by decide +kernel
          exact this w hw
        have hlen : a = ta + WL w := by
          have a1 := hl (WL w) (by omega)
          by_cases q : ta + WL w < a
          · exact absurd (a1.mp q) (by omega)
          · by_cases z : WL w = 0
            · omega
            · have := (hl (WL w - 1) (by omega)).mpr (by omega)
              omega
        refine ⟨hlen, fun o ho => ?_⟩
        have := q2 o (by omega)
        rw [if_pos (show ta + o < a by omega)] at this
        exact this
    by_cases q1 : a ≤ ta + 8
    · rw [if_neg (nI_nlt q1 (by omega))]
      have L : ∀ i, i < 8 → ∃ b : Bool, fMo_isLetter (nI i) (nI (WC w i)) r = some (bI b) ∧ (b = true ↔ (if ta + i < a then r 1 (160 * t + (ta + i)) = nI (WC w i) else WC w i = 0)) := fun i hi => ⟨_, q_isLetter h z4 (by omega) (WC_lt w hw i hi), decide_eq_true_iff⟩
      have no : ∀ i (b : Bool), i < 8 → (b = true ↔ (if ta + i < a then r 1 (160 * t + (ta + i)) = nI (WC w i) else WC w i = 0)) → b = false → (some (0 : Int32)) = some (bI (decide (k = w))) := by
        intro i b hi hb c
        have : ¬ k = w := fun q => by
          have := hb.mpr ((hiff.mp q).2 i hi)
          rw [c] at this
          cases this
        rw [decide_eq_false this]
        rfl
      obtain ⟨b0, e0, h0⟩ := L 0 (by omega)
      have e0 : fMo_isLetter (0 : Int32) (nI (WC w 0)) r = some (bI b0) := e0
      obtain ⟨b1, e1, h1⟩ := L 1 (by omega)
      have e1 : fMo_isLetter (1 : Int32) (nI (WC w 1)) r = some (bI b1) := e1
      obtain ⟨b2, e2, h2⟩ := L 2 (by omega)
      have e2 : fMo_isLetter (2 : Int32) (nI (WC w 2)) r = some (bI b2) := e2
      obtain ⟨b3, e3, h3⟩ := L 3 (by omega)
      have e3 : fMo_isLetter (3 : Int32) (nI (WC w 3)) r = some (bI b3) := e3
      obtain ⟨b4, e4, h4⟩ := L 4 (by omega)
      have e4 : fMo_isLetter (4 : Int32) (nI (WC w 4)) r = some (bI b4) := e4
      obtain ⟨b5, e5, h5⟩ := L 5 (by omega)
      have e5 : fMo_isLetter (5 : Int32) (nI (WC w 5)) r = some (bI b5) := e5
      obtain ⟨b6, e6, h6⟩ := L 6 (by omega)
      have e6 : fMo_isLetter (6 : Int32) (nI (WC w 6)) r = some (bI b6) := e6
      obtain ⟨b7, e7, h7⟩ := L 7 (by omega)
      have e7 : fMo_isLetter (7 : Int32) (nI (WC w 7)) r = some (bI b7) := e7
      rw [e0, q_b1]
      cases hb0 : b0
      · rw [if_pos (show bI false = 0 from rfl)]; exact no 0 b0 (by omega) h0 hb0
      rw [if_neg (show ¬ bI true = 0 by decide)]
      rw [e1, q_b1]
      cases hb1 : b1
      · rw [if_pos (show bI false = 0 from rfl)]; exact no 1 b1 (by omega) h1 hb1
      rw [if_neg (show ¬ bI true = 0 by decide)]
      rw [e2, q_b1]
      cases hb2 : b2
      · rw [if_pos (show bI false = 0 from rfl)]; exact no 2 b2 (by omega) h2 hb2
      rw [if_neg (show ¬ bI true = 0 by decide)]
      rw [e3, q_b1]
      cases hb3 : b3
      · rw [if_pos (show bI false = 0 from rfl)]; exact no 3 b3 (by omega) h3 hb3
      rw [if_neg (show ¬ bI true = 0 by decide)]
      rw [e4, q_b1]
      cases hb4 : b4
      · rw [if_pos (show bI false = 0 from rfl)]; exact no 4 b4 (by omega) h4 hb4
      rw [if_neg (show ¬ bI true = 0 by decide)]
      rw [e5, q_b1]
      cases hb5 : b5
      · rw [if_pos (show bI false = 0 from rfl)]; exact no 5 b5 (by omega) h5 hb5
      rw [if_neg (show ¬ bI true = 0 by decide)]
      rw [e6, q_b1]
      cases hb6 : b6
      · rw [if_pos (show bI false = 0 from rfl)]; exact no 6 b6 (by omega) h6 hb6
      rw [if_neg (show ¬ bI true = 0 by decide)]
      rw [e7, q_b1]
      cases hb7 : b7
      · rw [if_pos (show bI false = 0 from rfl)]; exact no 7 b7 (by omega) h7 hb7
      rw [if_neg (show ¬ bI true = 0 by decide)]
      rw [decide_eq_true (hiff.mpr ⟨q1, fun i hi => ?_⟩)]
      · rfl
      · rcases (show i = 0 ∨ i = 1 ∨ i = 2 ∨ i = 3 ∨ i = 4 ∨ i = 5 ∨ i = 6 ∨ i = 7 by omega) with rfl | rfl | rfl | rfl | rfl | rfl | rfl | rfl
        · exact h0.mp hb0
        · exact h1.mp hb1
        · exact h2.mp hb2
        · exact h3.mp hb3
        · exact h4.mp hb4
        · exact h5.mp hb5
        · exact h6.mp hb6
        · exact h7.mp hb7
    · rw [if_pos (nI_lt (by omega) (by omega)), decide_eq_false (fun q => q1 (hiff.mp q).1)]
      rfl
