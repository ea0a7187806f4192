/-! ===== every level ===== -/
theorem q_lv {d L : Nat} (RBf : Nat → Int32 × nt_T → Option ((Int32 × nt_T) ⊕ (Int32 × nt_T))) (hL : L < 5) (hL2 : L ≠ 2) (hS : SIM d (L + 1)) (hR : ∀ fb, nt_RB L fb (RBf fb)) (hE : ∀ fb r, refL (fb + 1) L r = nt_b2 (refL fb (L + 1) r) fun r1 g2 => (nt_b1 (nt_it (RBf fb) nt_fu (r1, g2)) fun z => some (z.1, z.2))) : SIM d L := by
  intro fa fb h1 h2 N t a ta k cs nm g r h
  obtain ⟨fa, rfl⟩ : ∃ f, fa = f + 1 := ⟨fa - 1, by omega⟩
  obtain ⟨fb, rfl⟩ : ∃ f, fb = f + 1 := ⟨fb - 1, by omega⟩
  have c2 : ¬ nI L = (2 : Int32) := fun q => hL2 ((nI_eq (a := L) (b := 2) (by omega) (by omega)).mp q)
  have c5 : nI L < (5 : Int32) := nI_lt (b := 5) hL (by omega)
  rw [hE]
  show nt_res N t ta d cs nm g r (6 + 5 * d - L) (FRd_readsLevel (kRd fa).1 (kRd fa).2 (nI L) g) _
  unfold FRd_readsLevel jRd_readsLevel_19 jRd_readsLevel_74
  rw [if_neg c2, if_pos c5, nI_1]
  rcases hS fa fb (by omega) (by omega) N t a ta k cs nm g r h with ⟨g', r', w, a', ta', k', n', e3, e4, p1, p2, p3, p4, p5, p6⟩ | ⟨g', r', w, e3, e4, p1, p2, p3⟩
  · rw [e3, e4, q_b2, q_b2, if_neg c2]
    obtain ⟨b, g2, v2, r2, e5, e6, m, hh⟩ := q_level (Fo := (kRd fa).2) hL hS (show 8 * d + 7 - (L + 1) ≤ fa by omega) (show 8 * d + 7 - (L + 1) ≤ fb by omega) (hR fb) ⟨p1, p6⟩
    rw [e5, e6, q_b1, q_b1]
    dsimp only
    rw [q_gdn]
    rcases hh with ⟨rfl, a2, ta2, k2, n2, u1, u2, u3, u4, u5⟩ | ⟨rfl, u1, u2⟩
    · exact Or.inl ⟨g2, r2, v2, a2, ta2, k2, n2, rfl, rfl, u1, pG_tr (Nat.le_refl cs) p2 u2, pM_tr p3 m, by omega, by omega, u5⟩
    · exact Or.inr ⟨g2, r2, v2, rfl, rfl, u1, pG_tr (Nat.le_refl 0) (pG_0 p2) u2, pM_tr p3 m⟩
  · rw [e3, e4, q_b2, q_b2, if_neg c2]
    have e5 : nt_it (fun z => bRd_readsLevel_78 (kRd fa).1 (kRd fa).2 (nI L) (160 : Int32) z.1 z.2.1 z.2.2) nt_fu ((0 : Int32), (0 : Int32), g') = some (bI false, g') := by
      refine q_run (body := fun z => bRd_readsLevel_78 (kRd fa).1 (kRd fa).2 (nI L) (160 : Int32) z.1 z.2.1 z.2.2) (fun _ => ((0 : Int32), (0 : Int32), g')) _ 0 (by omega) (fun k hk => absurd hk (by omega)) ?_
      show bRd_readsLevel_78 (kRd fa).1 (kRd fa).2 (nI L) (160 : Int32) 0 0 g' = _
      unfold bRd_readsLevel_78
      rw [if_neg (show ¬ (160 : Int32) ≤ 0 by decide), if_pos rfl]
      rfl
    have e6 : nt_it (RBf fb) nt_fu (w, r') = some (w, r') := by
      refine q_run (body := RBf fb) (fun _ => (w, r')) _ 0 (by omega) (fun k hk => absurd hk (by omega)) ?_
      exact (hR fb).1 w r' p1.1
    rw [e5, e6, q_b1, q_b1]
    dsimp only
    rw [q_gdn]
    exact Or.inr ⟨g', r', w, rfl, rfl, p1, p2, p3⟩
theorem LV_iff (k : Nat) : (LV k = 0 ↔ k = 6) ∧ (LV k = 1 ↔ k = 7) ∧ (LV k = 2 ↔ k = 18 ∨ k = 19) ∧ (LV k = 3 ↔ k = 15 ∨ k = 16) ∧ (LV k = 4 ↔ k = 17) := by
  unfold LV
  refine ⟨?_, ?_, ?_, ?_, ?_⟩ <;> (repeat' split) <;> omega
theorem TOK_sg {N t a ta k : Nat} {g r : nt_T} (h : nt_rs N t a ta k g r) {s : Nat} (hk : k = 12 + s) (hs : s < 8) : nt_mk (r 0 130) (r 0 230) = lN (SG s) := by
  rcases h.2.2.2.2.2.2.1 with ⟨e, _⟩ | ⟨e, _⟩ | ⟨v, _, e, _⟩ | ⟨u, _, e, _, ew⟩ | ⟨_, e, _⟩
  · omega
  · omega
  · omega
  · have : u = s := by omega
    subst this
    exact ew
  · omega
theorem RB_term (fb : Nat) : nt_RB 4 fb (fun z => bMo_term_5 (kMo fb).1 z.1 z.2) := by
  refine ⟨fun v r h => ?_, fun N t a ta k g v r h hb => ?_⟩
  · show bMo_term_5 (kMo fb).1 v r = _
    unfold bMo_term_5
    rw [bad_sign h, q_b1, if_pos rfl]
  · have s5 : fMo_isSign (42 : Int32) r = some (bI (decide (k = 17))) := q_isSign h hb (s := 5) (by omega)
    constructor
    · intro hop
      show bMo_term_5 (kMo fb).1 v r = _
      unfold bMo_term_5
      rw [s5, q_b1, decide_eq_false (fun q => hop ((LV_iff k).2.2.2.2.mpr q)), if_pos (show bI false = 0 from rfl)]
    · intro hop r5 w r7 e1 e2
      have hk := (LV_iff k).2.2.2.2.mp hop
      have e2 : (kMo fb).1 r5 = some (w, r7) := e2
      show bMo_term_5 (kMo fb).1 v r = _
      unfold bMo_term_5
      rw [s5, q_b1, decide_eq_true hk, if_neg (show ¬ bI true = 0 by decide), e1, q_b1, e2, q_b2, q_lt, hk, show jn (nI 17) v w = v * w from jn_mul v w]
theorem RB_added (fb : Nat) : nt_RB 3 fb (fun z => bMo_added_5 (kMo fb).2.1 z.1 z.2) := by
  refine ⟨fun v r h => ?_, fun N t a ta k g v r h hb => ?_⟩
  · show bMo_added_5 (kMo fb).2.1 v r = _
    unfold bMo_added_5
    rw [bad_sign h, q_b1, if_pos rfl, bad_sign h, q_b1, if_pos rfl]
  · have s3 : fMo_isSign (43 : Int32) r = some (bI (decide (k = 15))) := q_isSign h hb (s := 3) (by omega)
    have s4 : fMo_isSign (45 : Int32) r = some (bI (decide (k = 16))) := q_isSign h hb (s := 4) (by omega)
    constructor
    · intro hop
      show bMo_added_5 (kMo fb).2.1 v r = _
      unfold bMo_added_5
      rw [s3, q_b1, decide_eq_false (fun q => hop ((LV_iff k).2.2.2.1.mpr (Or.inl q))), if_pos (show bI false = 0 from rfl), s4, q_b1, decide_eq_false (fun q => hop ((LV_iff k).2.2.2.1.mpr (Or.inr q))), if_pos (show bI false = 0 from rfl)]
    · intro hop r5 w r7 e1 e2
      have e2 : (kMo fb).2.1 r5 = some (w, r7) := e2
      show bMo_added_5 (kMo fb).2.1 v r = _
      unfold bMo_added_5 jMo_added_23 jMo_added_39
      have z0 : ¬ (1 : Int32) = 0 := by decide
      rcases (LV_iff k).2.2.2.1.mp hop with hk | hk
      · have ew := TOK_sg h (s := 3) (by omega) (by omega)
        have c : lg_cmp (nt_mk (r 0 130) (r 0 230)) (43 : Int64) = 0 := (lg_cmp_eq _ _).mpr (by rw [ew]; rfl)
        rw [s3, q_b1, decide_eq_true hk, if_neg (show ¬ bI true = 0 by decide), if_pos c, e1, q_b1, e2, q_b2, if_neg z0, q_lt, hk, show jn (nI 15) v w = v + w from jn_add v w]
      · have ew := TOK_sg h (s := 4) (by omega) (by omega)
        have c : ¬ lg_cmp (nt_mk (r 0 130) (r 0 230)) (43 : Int64) = 0 := fun q => by
          have := (lg_cmp_eq _ _).mp q
          rw [ew] at this
          exact absurd this (by decide)
        rw [s3, q_b1, decide_eq_false (by omega), if_pos (show bI false = 0 from rfl), s4, q_b1, decide_eq_true hk, if_neg (show ¬ bI true = 0 by decide), if_neg c, e1, q_b1, e2, q_b2, if_pos rfl, q_lt, hk, show jn (nI 16) v w = v - w from jn_sub v w]
theorem RB_both (fb : Nat) : nt_RB 1 fb (fun z => bMo_both_5 (kMo fb).2.2.2.1 z.1 z.2) := by
  refine ⟨fun v r h => ?_, fun N t a ta k g v r h hb => ?_⟩
  · show bMo_both_5 (kMo fb).2.2.2.1 v r = _
    unfold bMo_both_5
    rw [bad_word h, q_b1, if_pos rfl]
  · have s5 := q_wn 7 (by omega) h hb (97 : Int32) (110 : Int32) (100 : Int32) (0 : Int32) (0 : Int32) (0 : Int32) (0 : Int32) (0 : Int32) (by decide +kernel)
    constructor
    · intro hop
      show bMo_both_5 (kMo fb).2.2.2.1 v r = _
      unfold bMo_both_5
      rw [s5, q_b1, decide_eq_false (fun q => hop ((LV_iff k).2.1.mpr q)), if_pos (show bI false = 0 from rfl)]
    · intro hop r5 w r7 e1 e2
      have hk := (LV_iff k).2.1.mp hop
      have e2 : (kMo fb).2.2.2.1 r5 = some (w, r7) := e2
      show bMo_both_5 (kMo fb).2.2.2.1 v r = _
      unfold bMo_both_5
      rw [s5, q_b1, decide_eq_true hk, if_neg (show ¬ bI true = 0 by decide), e1, q_b1, e2, q_b2, hk, show jn (nI 7) v w = _ from jn_and v w]
      by_cases c : v = 0
      · rw [if_pos c, if_pos c]
      · rw [if_neg c, if_neg c]
        by_cases c' : w = 0
        · rw [if_pos c', if_pos c']
        · rw [if_neg c', if_neg c']
theorem RB_either (fb : Nat) : nt_RB 0 fb (fun z => bMo_either_5 (kMo fb).2.2.2.2.1 z.1 z.2) := by
  refine ⟨fun v r h => ?_, fun N t a ta k g v r h hb => ?_⟩
  · show bMo_either_5 (kMo fb).2.2.2.2.1 v r = _
    unfold bMo_either_5
    rw [bad_word h, q_b1, if_pos rfl]
  · have s5 := q_wn 6 (by omega) h hb (111 : Int32) (114 : Int32) (0 : Int32) (0 : Int32) (0 : Int32) (0 : Int32) (0 : Int32) (0 : Int32) (by decide +kernel)
    constructor
    · intro hop
      show bMo_either_5 (kMo fb).2.2.2.2.1 v r = _
      unfold bMo_either_5
      rw [s5, q_b1, decide_eq_false (fun q => hop ((LV_iff k).1.mpr q)), if_pos (show bI false = 0 from rfl)]
    · intro hop r5 w r7 e1 e2
      have hk := (LV_iff k).1.mp hop
      have e2 : (kMo fb).2.2.2.2.1 r5 = some (w, r7) := e2
      show bMo_either_5 (kMo fb).2.2.2.2.1 v r = _
      unfold bMo_either_5
      rw [s5, q_b1, decide_eq_true hk, if_neg (show ¬ bI true = 0 by decide), e1, q_b1, e2, q_b2, hk, show jn (nI 6) v w = _ from jn_or v w]
      by_cases c : v = 0
      · rw [if_pos c, if_pos c]
        by_cases c' : w = 0
        · rw [if_pos c', if_pos c']
        · rw [if_neg c', if_neg c']
      · rw [if_neg c, if_neg c]
theorem sim_4 {d : Nat} (h : SIM d 5) : SIM d 4 := q_lv (fun fb z => bMo_term_5 (kMo fb).1 z.1 z.2) (by omega) (by omega) h RB_term (fun _ _ => rfl)
theorem sim_3 {d : Nat} (h : SIM d 4) : SIM d 3 := q_lv (fun fb z => bMo_added_5 (kMo fb).2.1 z.1 z.2) (by omega) (by omega) h RB_added (fun _ _ => rfl)
theorem sim_1 {d : Nat} (h : SIM d 2) : SIM d 1 := q_lv (fun fb z => bMo_both_5 (kMo fb).2.2.2.1 z.1 z.2) (by omega) (by omega) h RB_both (fun _ _ => rfl)
theorem sim_0 {d : Nat} (h : SIM d 1) : SIM d 0 := q_lv (fun fb z => bMo_either_5 (kMo fb).2.2.2.2.1 z.1 z.2) (by omega) (by omega) h RB_either (fun _ _ => rfl)
theorem sim_5 {d : Nat} (h0 : 1 ≤ d → SIM (d - 1) 0) (h5 : 1 ≤ d → SIM (d - 1) 5) : SIM d 5 := by
  intro fa fb h1 h2 N t a ta k cs nm g r h
  obtain ⟨fa, rfl⟩ : ∃ f, fa = f + 2 := ⟨fa - 2, by omega⟩
  obtain ⟨fb, rfl⟩ : ∃ f, fb = f + 1 := ⟨fb - 1, by omega⟩
  have hk : g 10 3 = nI k := h.1.2.2.2.2.2.1
  have hkl : k < 11000 := h.1.2.2.2.2.2.2.2.2.2.2
  show nt_res N t ta d cs nm g r (6 + 5 * d - 5) (FRd_readsLevel (kRd (fa + 1)).1 (kRd (fa + 1)).2 (5 : Int32) g) (FMo_atom (kMo fb).1 (kMo fb).2.2.2.2.2 r)
  unfold FRd_readsLevel jRd_readsLevel_19 jRd_readsLevel_42
  rw [if_neg (show ¬ (5 : Int32) = 2 by decide), if_neg (show ¬ (5 : Int32) < 5 by decide), hk]
  by_cases c16 : k = 16
  · subst c16
    rw [if_pos (show nI 16 = (16 : Int32) from rfl)]
    exact res_need (res_wrap (q_minus h5 (by omega) (by omega) h)) (by omega)
  · rw [if_neg (show ¬ nI k = (16 : Int32) from fun q => c16 ((nI_eq (a := k) (b := 16) (by omega) (by omega)).mp q))]
    by_cases c12 : k = 12
    · subst c12
      rw [if_pos (show nI 12 = (12 : Int32) from rfl)]
      exact res_need (res_wrap (q_paren h0 (by omega) (by omega) h)) (by omega)
    · rw [if_neg (show ¬ nI k = (12 : Int32) from fun q => c12 ((nI_eq (a := k) (b := 12) (by omega) (by omega)).mp q))]
      exact res_need (res_wrap (q_plain h c12 c16)) (by omega)
