/-! ===== brackets, not ===== -/
theorem bad_sign {r : nt_T} (h : r 0 32 = 1) (x : Int32) : fMo_isSign x r = some 0 := by
  unfold fMo_isSign
  rw [if_neg (show ¬ r 0 32 = 0 by rw [h]; decide)]
theorem bad_word {r : nt_T} (h : r 0 32 = 1) (x1 x2 x3 x4 x5 x6 x7 x8 : Int32) : fMo_isWord x1 x2 x3 x4 x5 x6 x7 x8 r = some 0 := by
  unfold fMo_isWord
  rw [if_neg (show ¬ r 0 32 = 0 by rw [h]; decide)]
theorem bad_fail {r : nt_T} (h : r 0 32 = 1) : fMo_fail r = some r := by
  unfold fMo_fail
  rw [if_neg (show ¬ r 0 32 = 0 by rw [h]; decide)]
theorem q_paren {N t a ta d cs : Nat} {nm : Nat → Int32} {g r : nt_T} {fa fb : Nat} {Fa : nt_T → Option (Int32 × nt_T)} (hS : 1 ≤ d → SIM (d - 1) 0) (h1 : 8 * d ≤ fa + 1) (h2 : 8 * d ≤ fb + 1) (h : nt_ps N t a ta 12 d cs nm g r) : nt_res N t ta d cs nm g r (1 + 5 * d) (FRd_readsOpened (kRd fa).1 g) (FMo_atom Fa (kMo fb).2.2.2.2.2 r) := by
  obtain ⟨hs, hb, hd, hg5, hr31, hg7, hcs, hnm, hcv⟩ := id h
  have s4 : fMo_isSign (45 : Int32) r = some (bI (decide (12 = 16))) := q_isSign hs hb (s := 4) (by omega)
  have s0 : fMo_isSign (40 : Int32) r = some (bI (decide (12 = 12))) := q_isSign hs hb (s := 0) (by omega)
  have hk : g 10 3 = nI 12 := hs.2.2.2.2.2.1
  unfold FMo_atom FRd_readsOpened
  rw [s4, q_b1, decide_eq_false (by omega), if_pos (show bI false = 0 from rfl), s0, q_b1, decide_eq_true rfl, if_neg (show ¬ bI true = 0 by decide), q_lt, hk]
  rcases q_open h (by omega) (by omega) with ⟨hd0, c1, r', e, f1, f2⟩ | ⟨hd1, c1, g4, r4, a', ta', k', e1, e2, f1, f2, f3, f4⟩
  · rw [if_neg c1, e, q_b2, if_pos rfl]
    exact Or.inr ⟨g, r', 0, rfl, rfl, f1, pG_rf 0 g, f2⟩
  · have z0 : ¬ (1 : Int32) = 0 := by decide
    have z1 : nI 12 = (12 : Int32) := rfl
    rw [if_pos c1, q_lt, e1, q_b1, if_pos z1, e2, q_b2, if_neg z0]
    unfold jRd_readsOpened_56 jRd_readsOpened_57 jRd_readsOpened_94 jMo_atom_71
    have hSub := hS hd1 fa fb (by omega) (by omega) N t a' ta' k' cs nm g4 r4 f1
    have eL : refL fb 0 = (kMo fb).2.2.2.2.2 := rfl
    rw [eL] at hSub
    have hSub : nt_res N t ta' (d - 1) cs nm g4 r4 (6 + 5 * (d - 1) - 0) ((kRd fa).1 (0 : Int32) g4) ((kMo fb).2.2.2.2.2 r4) := hSub
    rcases hSub with ⟨g5, r5, v, a5, ta5, k5, n, e3, e4, p1, p2, p3, p4, p5, p6⟩ | ⟨g5, r5, v, e3, e4, p1, p2, p3⟩
    · have s1 : fMo_isSign (41 : Int32) r5 = some (bI (decide (k5 = 13))) := q_isSign p1.1 p1.2.1 (s := 1) (by omega)
      have hk5 : g5 10 3 = nI k5 := p1.1.2.2.2.2.2.1
      have hkl : k5 < 11000 := p1.1.2.2.2.2.2.2.2.2.2.2
      rw [e3, e4, q_b2, q_b2, if_neg z0, s1, q_b1]
      unfold fRd_takes
      rw [hk5]
      by_cases c2 : k5 = 13
      · subst c2
        have z13 : nI 13 = (13 : Int32) := rfl
        rw [if_pos z13, decide_eq_true rfl, if_neg (show ¬ bI true = 0 by decide)]
        have hs2 : nt_rs N t a5 ta5 13 g5 (nt_st r5 0 31 (r5 0 31 - 1)) := rs_E (fun k' j a b => rfl) (fun k' j a => st_slot _ _ (by omega)) p1.1
        obtain ⟨g6, r6, a6, ta6, k6, e5, e6, w4, w1, w2, w3⟩ := q_stepR hs2 (by omega) (by omega)
        have zb : (nt_st r5 0 31 (r5 0 31 - 1)) 0 32 = 0 := by rw [st_slot _ _ (by omega)]; exact p1.2.1
        rw [e5, q_b1, q_b2, if_neg z0, q_lt, q_lt, if_pos zb, e6, q_b1]
        left
        obtain ⟨u0, ub, ud, ug5, ur31, ug7, ucs, unm, ucv⟩ := p1
        refine ⟨_, r6, v, a6, ta6, k6, n, q_gdn (b := true), rfl, ⟨rs_E (fun k' j a b => st_slot _ _ (by omega)) (fun _ _ _ => rfl) w4, by rw [w2 0 32 (by omega)]; exact zb, hd, ?_, ?_, by rw [st_slot _ _ (by omega), w1 10 7 (by omega)]; exact ug7, by omega, fun j hj => by rw [w2 0 (19 + j) (by omega), st_slot _ _ (by omega)]; exact unm j hj, fun j hj => by rw [st_slot _ _ (by omega), w1 12 j (by omega)]; exact ucv j hj⟩, pG_5 _ (pG_tr (Nat.le_refl cs) f2 (pG_tr (Nat.le_refl cs) p2 (kG_p cs w1))), pM_tr f3 (pM_tr p3 (pM_tr (pM_31 _ (pM_rf r5)) (kM_p w2))), by omega, by omega, ?_⟩
        · rw [st_eq, w1 10 5 (by omega), ug5]
          exact q_dec hd1 hd
        · rw [w2 0 31 (by omega), st_eq, ur31]
          exact q_dec hd1 hd
        · rw [st_row _ _ _ (show (12 : Nat) ≠ 10 by omega), show g6 12 = g5 12 from funext (fun j => w1 12 j (by omega))]
          exact PUSH_need p6 (by omega)
      · have z13 : ¬ nI k5 = (13 : Int32) := fun q => c2 ((nI_eq (a := k5) (b := 13) (by omega) (by omega)).mp q)
        obtain ⟨r6, e5, w1, w2, w3⟩ := q_fail p1
        rw [if_neg z13, decide_eq_false c2, if_pos (show bI false = 0 from rfl), q_b2, if_pos rfl, e5, q_b1, q_lt, q_lt]
        have zb : ¬ (nt_st r6 0 31 (r6 0 31 - 1)) 0 32 = 0 := by rw [st_slot _ _ (by omega), w1.1]; decide
        rw [if_neg zb]
        right
        exact ⟨_, _, v, q_gdn (b := false), rfl, FL_st _ _ w1, pG_5 _ (pG_tr (Nat.le_refl 0) (pG_0 f2) (pG_0 p2)), pM_31 _ (pM_tr f3 (pM_tr p3 w2))⟩
    · rw [e3, e4, q_b2, q_b2, if_pos rfl, bad_sign p1.1, q_b1, if_pos rfl, bad_fail p1.1, q_b1, q_lt, q_lt]
      have zb : ¬ (nt_st r5 0 31 (r5 0 31 - 1)) 0 32 = 0 := by rw [st_slot _ _ (by omega), p1.1]; decide
      rw [if_neg zb]
      right
      exact ⟨_, _, v, q_gdn (b := false), rfl, FL_st _ _ p1, pG_5 _ (pG_tr (Nat.le_refl 0) (pG_0 f2) p2), pM_31 _ (pM_tr f3 p3)⟩
theorem q_notw {N t a ta d cs : Nat} {nm : Nat → Int32} {g r : nt_T} {fa fb : Nat} {Fd : nt_T → Option (Int32 × nt_T)} (hS : 1 ≤ d → SIM (d - 1) 2) (h1 : 8 * d ≤ fa + 3) (h2 : 8 * d ≤ fb + 3) (h : nt_ps N t a ta 8 d cs nm g r) : nt_res N t ta d cs nm g r (4 + 5 * d) (FRd_readsOpened (kRd fa).1 g) (FMo_not Fd (kMo fb).2.2.2.1 r) := by
  obtain ⟨hs, hb, hd, hg5, hr31, hg7, hcs, hnm, hcv⟩ := id h
  have hk : g 10 3 = nI 8 := hs.2.2.2.2.2.1
  unfold FMo_not FRd_readsOpened
  rw [q_wn 8 (by omega) hs hb _ _ _ _ _ _ _ _ (by decide +kernel), q_b1, decide_eq_true rfl, if_neg (show ¬ bI true = 0 by decide), q_lt, hk]
  rcases q_open h (by omega) (by omega) with ⟨hd0, c1, r', e, f1, f2⟩ | ⟨hd1, c1, g4, r4, a', ta', k', e1, e2, f1, f2, f3, f4⟩
  · rw [if_neg c1, e, q_b2, if_pos rfl]
    exact Or.inr ⟨g, r', 0, rfl, rfl, f1, pG_rf 0 g, f2⟩
  · have z0 : ¬ (1 : Int32) = 0 := by decide
    have z1 : ¬ nI 8 = (12 : Int32) := by decide
    have z2 : nI 8 = (8 : Int32) := rfl
    rw [if_pos c1, q_lt, e1, q_b1, if_neg z1, if_pos z2, e2, q_b2, if_neg z0]
    unfold jRd_readsOpened_73 jRd_readsOpened_91 jRd_readsOpened_94
    have hSub := hS hd1 fa fb (by omega) (by omega) N t a' ta' k' cs nm g4 r4 f1
    have eL : refL fb 2 = (kMo fb).2.2.2.1 := rfl
    rw [eL] at hSub
    have hSub : nt_res N t ta' (d - 1) cs nm g4 r4 (6 + 5 * (d - 1) - 2) ((kRd fa).1 (2 : Int32) g4) ((kMo fb).2.2.2.1 r4) := hSub
    have eI : ∀ (v : Int32) (x : nt_T), (if v = 0 then some ((1 : Int32), x) else some ((0 : Int32), x)) = some (if v = 0 then 1 else 0, x) := fun v x => by
      by_cases c : v = 0
      · rw [if_pos c, if_pos c]
      · rw [if_neg c, if_neg c]
    rcases hSub with ⟨g5, r5, v, a5, ta5, k5, n, e3, e4, p1, p2, p3, p4, p5, p6⟩ | ⟨g5, r5, v, e3, e4, p1, p2, p3⟩
    · rw [e3, e4, q_b2, q_b2, if_pos z2]
      have hN := p1.1.1.1
      have hle := p1.1.2.2.2.2.2.2.2.1
      have haN := p1.1.2.2.2.2.2.2.2.2.1
      obtain ⟨w1, w2, w3⟩ := ps_write p1 (c := 8) (by omega) (by omega)
      rw [show (8 : Int32) = nI 8 from rfl, q_write p1.2.2.2.2.2.1 (by omega), q_b1, q_lt, q_lt, eI]
      left
      refine ⟨_, _, _, a5, ta5, k5, n + 1, q_gdn (b := true), rfl, ps_close hd1 hd w1, pG_5 _ (pG_tr (Nat.le_refl cs) f2 (pG_tr (Nat.le_add_right cs n) p2 w2)), pM_31 _ (pM_tr f3 p3), by omega, by omega, ?_⟩
      rw [st_row _ _ _ (show (12 : Nat) ≠ 10 by omega)]
      have pu := PUSH_un (PUSH_congr p6 (fun j _ h2 => w2.2 j h2)) w3 (Or.inl rfl)
      rw [if_neg (show ¬ nI 8 = (20 : Int32) by decide)] at pu
      exact PUSH_need pu (by omega)
    · rw [e3, e4, q_b2, q_b2, if_pos z2]
      obtain ⟨g6, e6, w1, w2⟩ := q_writeF (x := 8) p1
      rw [e6, q_b1, q_lt, q_lt, eI]
      right
      exact ⟨_, _, _, q_gdn (b := false), rfl, FL_st _ _ w1, pG_5 _ (pG_tr (Nat.le_refl 0) (pG_0 f2) (pG_tr (Nat.le_refl 0) p2 w2)), pM_31 _ (pM_tr f3 p3)⟩
