/-! ===== the level of not; all levels ===== -/
theorem it_1 {S X : Type} {body : S → Option (S ⊕ X)} {s : S} {x : X} (h : body s = some (.inr x)) : nt_it body nt_fu s = some x := q_run (body := body) (fun _ => s) x 0 (by omega) (fun k hk => absurd hk (by omega)) h
theorem it_2 {S X : Type} {body : S → Option (S ⊕ X)} {s s' : S} {x : X} (h : body s = some (.inl s')) (h' : body s' = some (.inr x)) : nt_it body nt_fu s = some x := by
  refine q_run (body := body) (fun k => if k = 0 then s else s') x 1 (by omega) (fun k hk => ?_) h'
  obtain rfl : k = 0 := by omega
  exact h
theorem sim_2 {d : Nat} (h3 : SIM d 3) (h2' : 1 ≤ d → SIM (d - 1) 2) : SIM d 2 := by
  intro fa fb h1 h2 N t a ta k cs nm g r h
  obtain ⟨fa, rfl⟩ : ∃ f, fa = f + 2 := ⟨fa - 2, by omega⟩
  obtain ⟨fb, rfl⟩ : ∃ f, fb = f + 1 := ⟨fb - 1, by omega⟩
  have hk : g 10 3 = nI k := h.1.2.2.2.2.2.1
  have hkl : k < 11000 := h.1.2.2.2.2.2.2.2.2.2.2
  show nt_res N t ta d cs nm g r (6 + 5 * d - 2) (FRd_readsLevel (kRd (fa + 1)).1 (kRd (fa + 1)).2 (2 : Int32) g) (FMo_not (kMo fb).2.2.1 (kMo fb).2.2.2.1 r)
  unfold FRd_readsLevel jRd_readsLevel_19 jRd_readsLevel_74
  rw [if_pos rfl, if_pos (show (2 : Int32) < 5 by decide), hk]
  by_cases c8 : k = 8
  · subst c8
    rw [if_pos (show nI 8 = (8 : Int32) from rfl)]
    exact res_need (res_wrap (q_notw h2' (by omega) (by omega) h)) (by omega)
  · rw [if_neg (show ¬ nI k = (8 : Int32) from fun q => c8 ((nI_eq (a := k) (b := 8) (by omega) (by omega)).mp q))]
    unfold FMo_not
    rw [q_wn 8 (by omega) h.1 h.2.1 _ _ _ _ _ _ _ _ (by decide +kernel), q_b1, decide_eq_false c8, if_pos (show bI false = 0 from rfl)]
    have hSub := h3 (fa + 1) fb (by omega) (by omega) N t a ta k cs nm g r h
    have eL : refL fb 3 = (kMo fb).2.2.1 := rfl
    rw [eL] at hSub
    have hSub : nt_res N t ta d cs nm g r (6 + 5 * d - 3) ((kRd (fa + 1)).1 ((2 : Int32) + 1) g) ((kMo fb).2.2.1 r) := hSub
    have z0 : ¬ (1 : Int32) = 0 := by decide
    have z1 : ¬ (1 : Int32) ≤ 0 := by decide
    rcases hSub with ⟨g', r', w, a', ta', k', n', e3, e4, p1, p2, p3, p4, p5, p6⟩ | ⟨g', r', w, e3, e4, p1, p2, p3⟩
    · rw [e3, e4, q_b2, q_b2, if_pos rfl]
      have hk' : g' 10 3 = nI k' := p1.1.2.2.2.2.2.1
      have hkl' : k' < 11000 := p1.1.2.2.2.2.2.2.2.2.2.2
      have s6 : fMo_isSign (60 : Int32) r' = some (bI (decide (k' = 18))) := q_isSign p1.1 p1.2.1 (s := 6) (by omega)
      have s7 : fMo_isSign (61 : Int32) r' = some (bI (decide (k' = 19))) := q_isSign p1.1 p1.2.1 (s := 7) (by omega)
      rw [s6, q_b1]
      by_cases hop : LV k' = 2
      · obtain ⟨g5, r5, e5, e6, r12, g13, w2, r7, g14, e7, e8, e9, m, hh⟩ := q_round (L := 2) (fa := fa + 1) (fb := fb) (by omega) h3 (by omega) (by omega) p1 hop p6 (by omega)
        have e7 : (kRd (fa + 1)).1 ((2 : Int32) + 1) g5 = some (bI r12, g13) := e7
        have e8 : (kMo fb).2.2.1 r5 = some (w2, r7) := e8
        have eC : nt_it (fun z => bRd_readsLevel_78 (kRd (fa + 1)).1 (kRd (fa + 1)).2 (2 : Int32) (1 : Int32) z.1 z.2.1 z.2.2) nt_fu ((1 : Int32), (0 : Int32), g') = some (bI r12, g14) := by
          refine it_2 (s' := (bI r12, (1 : Int32), g14)) ?_ ?_
          · show bRd_readsLevel_78 (kRd (fa + 1)).1 (kRd (fa + 1)).2 (2 : Int32) (1 : Int32) 1 0 g' = _
            unfold bRd_readsLevel_78
            have c9 : ¬ LV k' = 9 := by omega
            rw [if_neg z1, if_neg z0, hk', q_levelOf hkl', q_b1, if_neg c9, hop, if_pos (show nI 2 = (2 : Int32) from rfl), q_lt, e5, q_b1, e7, q_b2, e9, q_b1, q_lt]
            rfl
          · show bRd_readsLevel_78 (kRd (fa + 1)).1 (kRd (fa + 1)).2 (2 : Int32) (1 : Int32) (bI r12) 1 g14 = _
            unfold bRd_readsLevel_78
            rw [if_pos (show (1 : Int32) ≤ 1 by decide)]
        rw [eC, q_b1]
        dsimp only
        rw [q_gdn]
        have fin : nt_res N t ta d cs nm g r (6 + 5 * d - 2) (some (bI r12, g14)) (some (jn (nI k') w w2, r7)) := by
          rcases hh with ⟨rfl, a2, ta2, k2, n2, u1, u2, u3, u4, u5⟩ | ⟨rfl, u1, u2⟩
          · exact Or.inl ⟨g14, r7, _, a2, ta2, k2, n2, rfl, rfl, u1, pG_tr (Nat.le_refl cs) p2 u2, pM_tr p3 m, by omega, by omega, u5⟩
          · exact Or.inr ⟨g14, r7, _, rfl, rfl, u1, pG_tr (Nat.le_refl 0) (pG_0 p2) u2, pM_tr p3 m⟩
        unfold jMo_not_77 jMo_not_93
        rcases (LV_iff k').2.2.1.mp hop with hk2 | hk2
        · have ew := TOK_sg p1.1 (s := 6) (by omega) (by omega)
          have c : lg_cmp (nt_mk (r' 0 130) (r' 0 230)) (60 : Int64) = 0 := (lg_cmp_eq _ _).mpr (by rw [ew]; rfl)
          rw [decide_eq_true hk2, if_neg (show ¬ bI true = 0 by decide), if_pos c, e6, q_b1, e8, q_b2, if_neg z0]
          rw [hk2, show jn (nI 18) w w2 = _ from jn_less w w2] at fin
          by_cases q : w2 ≤ w
          · rw [if_pos q] at fin ⊢
            exact fin
          · rw [if_neg q] at fin ⊢
            exact fin
        · have ew := TOK_sg p1.1 (s := 7) (by omega) (by omega)
          have c : ¬ lg_cmp (nt_mk (r' 0 130) (r' 0 230)) (60 : Int64) = 0 := fun q => by
            have := (lg_cmp_eq _ _).mp q
            rw [ew] at this
            exact absurd this (by decide)
          rw [decide_eq_false (by omega), if_pos (show bI false = 0 from rfl), s7, q_b1, decide_eq_true hk2, if_neg (show ¬ bI true = 0 by decide), if_neg c, e6, q_b1, e8, q_b2, if_pos rfl]
          rw [hk2, show jn (nI 19) w w2 = _ from jn_same w w2] at fin
          by_cases q : w = w2
          · rw [if_pos q] at fin ⊢
            exact fin
          · rw [if_neg q] at fin ⊢
            exact fin
      · have n18 : ¬ k' = 18 := fun q => hop ((LV_iff k').2.2.1.mpr (Or.inl q))
        have n19 : ¬ k' = 19 := fun q => hop ((LV_iff k').2.2.1.mpr (Or.inr q))
        have eC : nt_it (fun z => bRd_readsLevel_78 (kRd (fa + 1)).1 (kRd (fa + 1)).2 (2 : Int32) (1 : Int32) z.1 z.2.1 z.2.2) nt_fu ((1 : Int32), (0 : Int32), g') = some (bI true, g') := by
          refine it_1 ?_
          show bRd_readsLevel_78 (kRd (fa + 1)).1 (kRd (fa + 1)).2 (2 : Int32) (1 : Int32) 1 0 g' = _
          unfold bRd_readsLevel_78
          have c9 : ¬ (if LV k' = 9 then (-1 : Int32) else nI (LV k')) = 2 := by
            by_cases c : LV k' = 9
            · rw [if_pos c]; decide
            · rw [if_neg c]
              have : LV k' ≤ 9 := by
                unfold LV
                (repeat' split) <;> omega
              exact fun q => hop ((nI_eq (a := LV k') (b := 2) (by omega) (by omega)).mp q)
          rw [if_neg z1, if_neg z0, hk', q_levelOf hkl', q_b1, if_neg c9]
          rfl
        rw [eC, q_b1, decide_eq_false n18, if_pos (show bI false = 0 from rfl), s7, q_b1, decide_eq_false n19, if_pos (show bI false = 0 from rfl)]
        dsimp only
        rw [q_gdn]
        exact Or.inl ⟨g', r', w, a', ta', k', n', rfl, rfl, p1, p2, p3, p4, p5, PUSH_need p6 (by omega)⟩
    · rw [e3, e4, q_b2, q_b2, if_pos rfl]
      have eC : nt_it (fun z => bRd_readsLevel_78 (kRd (fa + 1)).1 (kRd (fa + 1)).2 (2 : Int32) (1 : Int32) z.1 z.2.1 z.2.2) nt_fu ((0 : Int32), (0 : Int32), g') = some (bI false, g') := by
        refine it_1 ?_
        show bRd_readsLevel_78 (kRd (fa + 1)).1 (kRd (fa + 1)).2 (2 : Int32) (1 : Int32) 0 0 g' = _
        unfold bRd_readsLevel_78
        rw [if_neg z1, if_pos rfl]
        rfl
      rw [eC, q_b1, bad_sign p1.1, q_b1, if_pos rfl, bad_sign p1.1, q_b1, if_pos rfl]
      dsimp only
      rw [q_gdn]
      exact Or.inr ⟨g', r', w, rfl, rfl, p1, p2, p3⟩
theorem sim_all : ∀ d, SIM d 0 ∧ SIM d 1 ∧ SIM d 2 ∧ SIM d 3 ∧ SIM d 4 ∧ SIM d 5 := by
  intro d
  induction d with
  | zero =>
    have s5 : SIM 0 5 := sim_5 (fun h => absurd h (by omega)) (fun h => absurd h (by omega))
    have s4 := sim_4 s5
    have s3 := sim_3 s4
    have s2 : SIM 0 2 := sim_2 s3 (fun h => absurd h (by omega))
    exact ⟨sim_0 (sim_1 s2), sim_1 s2, s2, s3, s4, s5⟩
  | succ d ih =>
    have s5 : SIM (d + 1) 5 := sim_5 (fun _ => ih.1) (fun _ => ih.2.2.2.2.2)
    have s4 := sim_4 s5
    have s3 := sim_3 s4
    have s2 : SIM (d + 1) 2 := sim_2 s3 (fun _ => ih.2.2.1)
    exact ⟨sim_0 (sim_1 s2), sim_1 s2, s2, s3, s4, s5⟩
