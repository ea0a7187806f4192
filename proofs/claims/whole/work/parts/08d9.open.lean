/-! ===== what is opened: brackets, minus, not ===== -/
theorem res_wrap {N t ta d cs : Nat} {nm : Nat → Int32} {g r : nt_T} {M : Nat} {x y : Option (Int32 × nt_T)} (h : nt_res N t ta d cs nm g r M x y) : nt_res N t ta d cs nm g r M (nt_b2 x fun r21 g22 => nt_gd (decide (narrow .boolean (.int r21) = .int r21)) <| some (r21, g22)) y := by
  rcases h with ⟨g', r', v, a', ta', k', n, e1, e2, f⟩ | ⟨g', r', v, e1, e2, f⟩
  · left
    refine ⟨g', r', v, a', ta', k', n, ?_, e2, f⟩
    rw [e1, q_b2]
    exact q_gdn (b := true)
  · right
    refine ⟨g', r', v, ?_, e2, f⟩
    rw [e1, q_b2]
    exact q_gdn (b := false)
theorem res_need {N t ta d cs : Nat} {nm : Nat → Int32} {g r : nt_T} {M M' : Nat} {x y : Option (Int32 × nt_T)} (h : nt_res N t ta d cs nm g r M x y) (hM : M ≤ M') : nt_res N t ta d cs nm g r M' x y := by
  rcases h with ⟨g', r', v, a', ta', k', n, e1, e2, f1, f2, f3, f4, f5, f6⟩ | h
  · exact Or.inl ⟨g', r', v, a', ta', k', n, e1, e2, f1, f2, f3, f4, f5, PUSH_need f6 hM⟩
  · exact Or.inr h
theorem q_writeF {x : Int32} {g r : nt_T} (h : nt_FL g r) : ∃ g', fRd_write x g = some g' ∧ nt_FL g' r ∧ nt_pG 0 g g' := by
  obtain ⟨h1, ta, cs, h2, h3, h4, h5, h6⟩ := h
  by_cases c : cs < 160
  · rw [q_write h6 c]
    refine ⟨_, rfl, ⟨h1, ta, cs + 1, h2, by rw [st_slot _ _ (by omega), st_slot _ _ (by omega)]; exact h3, h4, by omega, st_eq _ _ _ _⟩, ⟨fun k j a b => by rw [st_slot _ _ (by omega), st_slot _ _ (by omega)], fun j hj => absurd hj (Nat.not_lt_zero j)⟩⟩
  · obtain rfl : cs = 160 := by omega
    unfold fRd_write
    rw [h6, if_pos (show (160 : Int32) ≤ nI 160 by decide)]
    exact ⟨g, rfl, ⟨h1, ta, 160, h2, h3, h4, by omega, h6⟩, pG_rf 0 g⟩
/-- one opening more, if there is room -/
theorem q_open {N t a ta k d cs : Nat} {nm : Nat → Int32} {g r : nt_T} (h : nt_ps N t a ta k d cs nm g r) (h1 : k ≠ 21) (h2 : k ≠ 22) : (d = 0 ∧ ¬ g 10 5 < (5 : Int32) ∧ ∃ r', fMo_opens r = some (0, r') ∧ nt_FL g r' ∧ nt_pM r r') ∨ (1 ≤ d ∧ g 10 5 < (5 : Int32) ∧ ∃ g4 r4 a' ta' k', fRd_step (nt_st g 10 5 (g 10 5 + 1)) = some g4 ∧ fMo_opens r = some (1, r4) ∧ nt_ps N t a' ta' k' (d - 1) cs nm g4 r4 ∧ nt_pG cs g g4 ∧ nt_pM r r4 ∧ ta < ta') := by
  obtain ⟨hs, hb, hd, hg5, hr31, hg7, hcs, hnm, hcv⟩ := id h
  by_cases c : d = 0
  · left
    subst c
    have z1 : ¬ nI (5 - 0) < (5 : Int32) := by decide
    have z2 : nI (5 - 0) = (5 : Int32) := by decide
    obtain ⟨r', e, f1, f2, -⟩ := q_fail h
    refine ⟨rfl, by rw [hg5]; exact z1, r', ?_, f1, f2⟩
    unfold fMo_opens
    rw [hr31, if_pos z2, e, q_b1]
  · right
    have z1 : nI (5 - d) < (5 : Int32) := nI_lt (b := 5) (by omega) (by omega)
    have z2 : ¬ nI (5 - d) = (5 : Int32) := fun q => by
      have := (nI_eq (a := 5 - d) (b := 5) (by omega) (by omega)).mp q
      omega
    have hs2 : nt_rs N t a ta k (nt_st g 10 5 (g 10 5 + 1)) (nt_st r 0 31 (r 0 31 + 1)) := rs_E (fun k' j a b => st_slot _ _ (by omega)) (fun k' j a => st_slot _ _ (by omega)) hs
    obtain ⟨g', r', a', ta', k', e1, e2, f4, f1, f2, f3⟩ := q_stepR hs2 h1 h2
    refine ⟨by omega, by rw [hg5]; exact z1, g', r', a', ta', k', e1, ?_, ⟨f4, by rw [f2 0 32 (by omega), st_slot _ _ (by omega)]; exact hb, by omega, ?_, ?_, by rw [f1 10 7 (by omega), st_slot _ _ (by omega)]; exact hg7, by omega, fun j hj => by rw [f2 0 (19 + j) (by omega), st_slot _ _ (by omega)]; exact hnm j hj, fun j hj => by rw [f1 12 j (by omega), st_slot _ _ (by omega)]; exact hcv j hj⟩, ⟨fun k' j h1 h2 => by rw [f1 k' j (by omega), st_slot _ _ (by omega)], fun j hj => by rw [f1 12 j (by omega), st_slot _ _ (by omega)]⟩, fun k' j q => by rw [f2 k' j (by omega), st_slot _ _ (by omega)], f3⟩
    · unfold fMo_opens
      rw [hr31, if_neg z2, q_lt, ← hr31, e2, q_b1]
    · rw [f1 10 5 (by omega), st_eq, hg5, nI_1]
      congr 1
      omega
    · rw [f2 0 31 (by omega), st_eq, hr31, nI_1]
      congr 1
      omega
theorem q_dec {d : Nat} (h1 : 1 ≤ d) (hd : d ≤ 5) : nI (5 - (d - 1)) - (1 : Int32) = nI (5 - d) := by
  rw [show 5 - (d - 1) = 5 - d + 1 by omega]
  exact nI_pred _
/-- one opening less -/
theorem ps_close {N t a ta k d cs : Nat} {nm : Nat → Int32} {g r : nt_T} (hd1 : 1 ≤ d) (hd5 : d ≤ 5) (h : nt_ps N t a ta k (d - 1) cs nm g r) : nt_ps N t a ta k d cs nm (nt_st g 10 5 (g 10 5 - 1)) (nt_st r 0 31 (r 0 31 - 1)) := by
  obtain ⟨hs, hb, hd, hg5, hr31, hg7, hcs, hnm, hcv⟩ := h
  exact ⟨rs_E (fun k' j a b => st_slot _ _ (by omega)) (fun k' j a => st_slot _ _ (by omega)) hs, by rw [st_slot _ _ (by omega)]; exact hb, hd5, by rw [st_eq, hg5]; exact q_dec hd1 hd5, by rw [st_eq, hr31]; exact q_dec hd1 hd5, by rw [st_slot _ _ (by omega)]; exact hg7, hcs, fun j hj => by rw [st_slot _ _ (by omega)]; exact hnm j hj, fun j hj => by rw [st_slot _ _ (by omega)]; exact hcv j hj⟩
theorem pG_5 {cs : Nat} {g g' : nt_T} (x : Int32) (h : nt_pG cs g g') : nt_pG cs g (nt_st g' 10 5 x) := ⟨fun k j a b => by rw [st_slot _ _ (by omega)]; exact h.1 k j a b, fun j hj => by rw [st_slot _ _ (by omega)]; exact h.2 j hj⟩
theorem pM_31 {r r' : nt_T} (x : Int32) (h : nt_pM r r') : nt_pM r (nt_st r' 0 31 x) := fun k j a => by rw [st_slot _ _ (by omega)]; exact h k j a
theorem q_minus {N t a ta d cs : Nat} {nm : Nat → Int32} {g r : nt_T} {fa fb : Nat} {Fe : nt_T → Option (Int32 × nt_T)} (hS : 1 ≤ d → SIM (d - 1) 5) (h1 : 8 * d ≤ fa + 6) (h2 : 8 * d ≤ fb + 6) (h : nt_ps N t a ta 16 d cs nm g r) : nt_res N t ta d cs nm g r (1 + 5 * d) (FRd_readsOpened (kRd fa).1 g) (FMo_atom (kMo fb).1 Fe r) := by
  obtain ⟨hs, hb, hd, hg5, hr31, hg7, hcs, hnm, hcv⟩ := id h
  have s4 : fMo_isSign (45 : Int32) r = some (bI (decide (16 = 16))) := q_isSign hs hb (s := 4) (by omega)
  have hk : g 10 3 = nI 16 := hs.2.2.2.2.2.1
  unfold FMo_atom FRd_readsOpened
  rw [s4, q_b1, decide_eq_true rfl, if_neg (show ¬ bI true = 0 by decide), q_lt, hk]
  rcases q_open h (by omega) (by omega) with ⟨hd0, c1, r', e, f1, f2⟩ | ⟨hd1, c1, g4, r4, a', ta', k', e1, e2, f1, f2, f3, f4⟩
  · rw [if_neg c1, e, q_b2, if_pos rfl]
    exact Or.inr ⟨g, r', 0, rfl, rfl, f1, pG_rf 0 g, f2⟩
  · have z0 : ¬ (1 : Int32) = 0 := by decide
    have z1 : ¬ nI 16 = (12 : Int32) := by decide
    have z2 : ¬ nI 16 = (8 : Int32) := by decide
    rw [if_pos c1, q_lt, e1, q_b1, if_neg z1, if_neg z2, e2, q_b2, if_neg z0]
    unfold jRd_readsOpened_73 jRd_readsOpened_91 jRd_readsOpened_94
    have hSub := hS hd1 fa fb (by omega) (by omega) N t a' ta' k' cs nm g4 r4 f1
    have eL : refL fb 5 = (kMo fb).1 := rfl
    rw [eL] at hSub
    have hSub : nt_res N t ta' (d - 1) cs nm g4 r4 (6 + 5 * (d - 1) - 5) ((kRd fa).1 (5 : Int32) g4) ((kMo fb).1 r4) := hSub
    rcases hSub with ⟨g5, r5, v, a5, ta5, k5, n, e3, e4, p1, p2, p3, p4, p5, p6⟩ | ⟨g5, r5, v, e3, e4, p1, p2, p3⟩
    · rw [e3, e4, q_b2, q_b2, if_neg z2]
      have hN := p1.1.1.1
      have hle := p1.1.2.2.2.2.2.2.2.1
      have haN := p1.1.2.2.2.2.2.2.2.2.1
      obtain ⟨w1, w2, w3⟩ := ps_write p1 (c := 20) (by omega) (by omega)
      rw [show (20 : Int32) = nI 20 from rfl, q_write p1.2.2.2.2.2.1 (by omega), q_b1, q_lt, q_lt, q_lt]
      left
      refine ⟨_, _, -v, a5, ta5, k5, n + 1, q_gdn (b := true), rfl, ps_close hd1 hd w1, pG_5 _ (pG_tr (Nat.le_refl cs) f2 (pG_tr (Nat.le_add_right cs n) p2 w2)), pM_31 _ (pM_tr f3 p3), by omega, by omega, ?_⟩
      rw [st_row _ _ _ (show (12 : Nat) ≠ 10 by omega)]
      have pu := PUSH_un (PUSH_congr p6 (fun j _ h2 => w2.2 j h2)) w3 (Or.inr rfl)
      rw [if_pos (show nI 20 = (20 : Int32) from rfl)] at pu
      exact PUSH_need pu (by omega)
    · rw [e3, e4, q_b2, q_b2, if_neg z2]
      obtain ⟨g6, e6, w1, w2⟩ := q_writeF (x := 20) p1
      rw [e6, q_b1, q_lt, q_lt, q_lt]
      right
      exact ⟨_, _, -v, q_gdn (b := false), rfl, FL_st _ _ w1, pG_5 _ (pG_tr (Nat.le_refl 0) (pG_0 f2) (pG_tr (Nat.le_refl 0) p2 w2)), pM_31 _ (pM_tr f3 p3)⟩
