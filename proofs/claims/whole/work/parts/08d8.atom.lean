/-! ===== one plain token; what is opened ===== -/
def refL (fb L : Nat) : nt_T → Option (Int32 × nt_T) := if L = 0 then (kMo fb).2.2.2.2.2 else if L = 1 then (kMo fb).2.2.2.2.1 else if L = 2 then (kMo fb).2.2.2.1 else if L = 3 then (kMo fb).2.2.1 else if L = 4 then (kMo fb).2.1 else (kMo fb).1
def SIM (d L : Nat) : Prop := ∀ (fa fb : Nat), 8 * d + 7 - L ≤ fa → 8 * d + 7 - L ≤ fb → ∀ (N t a ta k cs : Nat) (nm : Nat → Int32) (g r : nt_T), nt_ps N t a ta k d cs nm g r → nt_res N t ta d cs nm g r (6 + 5 * d - L) ((kRd fa).1 (nI L) g) (refL fb L r)
theorem q_stepR {N t a ta k : Nat} {g r : nt_T} (h : nt_rs N t a ta k g r) (h1 : k ≠ 21) (h2 : k ≠ 22) : ∃ g' r' a' ta' k', fRd_step g = some g' ∧ fMo_next r = some r' ∧ nt_rs N t a' ta' k' g' r' ∧ nt_kG g g' ∧ nt_kM r r' ∧ ta < ta' := by
  obtain ⟨h0, ha, ha2, hta, hta2, hk, hT, hle, haN, hne, hkl⟩ := h
  obtain ⟨g', r', a', ta', k', e1, e2, f1, f2, f3, f4⟩ := q_step h0 ha (ha2 (TOK_4 hT h2)) haN
  have hne : ta < a := hne.resolve_left h1
  exact ⟨g', r', a', ta', k', e1, e2, f4, f1, f2, by omega⟩
theorem rs_E {N t a ta k : Nat} {g r g' r' : nt_T} (hg : ∀ k j, ¬ (k = 10 ∧ (j = 5 ∨ j = 7)) → k ≠ 12 → g' k j = g k j) (hr : ∀ k j, ¬ (k = 0 ∧ (31 ≤ j ∧ j ≤ 33)) → r' k j = r k j) (h : nt_rs N t a ta k g r) : nt_rs N t a ta k g' r' := by
  unfold nt_rs nt_in0 TOK WMt nt_wo at h ⊢
  rw [hg 10 1 (by omega) (by omega), hg 10 2 (by omega) (by omega), hg 10 3 (by omega) (by omega), hg 10 4 (by omega) (by omega), hr 0 25 (by omega), hr 0 26 (by omega), hr 0 27 (by omega), hr 0 28 (by omega), hr 0 29 (by omega), hr 0 130 (by omega), hr 0 230 (by omega), show g' 11 = g 11 from funext (fun j => hg 11 j (by omega) (by omega)), show r' 1 = r 1 from funext (fun j => hr 1 j (by omega))]
  exact h
theorem FL_st {g r : nt_T} (x y : Int32) (h : nt_FL g r) : nt_FL (nt_st g 10 5 x) (nt_st r 0 31 y) := by
  unfold nt_FL at h ⊢
  rw [st_slot _ _ (by omega), st_slot _ _ (by omega), st_slot _ _ (by omega), st_slot _ _ (by omega)]
  exact h
theorem q_gdn {b : Bool} {g : nt_T} : nt_gd (decide (narrow .boolean (.int (bI b)) = .int (bI b))) (some (bI b, g)) = some (bI b, g) := q_gd (q_nb b) _
theorem q_plain {N t a ta k d cs : Nat} {nm : Nat → Int32} {g r : nt_T} {Fa Fe : nt_T → Option (Int32 × nt_T)} (h : nt_ps N t a ta k d cs nm g r) (h12 : k ≠ 12) (h16 : k ≠ 16) : nt_res N t ta d cs nm g r 1 (fRd_readsPlain g) (FMo_atom Fa Fe r) := by
  obtain ⟨hs, hb, hd, hg5, hr31, hg7, hcs, hnm, hcv⟩ := id h
  obtain ⟨h0, ha, ha2, hta, hta2, hk, hT, hle, haN, hne, hkl⟩ := id hs
  have hN := h0.1
  have s4 := q_isSign hs hb (s := 4) (by omega)
  have s0 := q_isSign hs hb (s := 0) (by omega)
  have s4 : fMo_isSign (45 : Int32) r = some (bI (decide (k = 16))) := s4
  have s0 : fMo_isSign (40 : Int32) r = some (bI (decide (k = 12))) := s0
  unfold FMo_atom
  rw [s4, q_b1, decide_eq_false h16, if_pos (show bI false = 0 from rfl), s0, q_b1, decide_eq_false h12, if_pos (show bI false = 0 from rfl), if_pos hb]
  unfold fRd_readsPlain jRd_readsPlain_20
  rw [hk]
  have good : k < 6 ∨ 32 ≤ k → ∀ v : Int32, (nt_b1 (fRd_write (nI k) g) fun g2 => nt_b1 (fRd_step g2) fun g3 => some ((1 : Int32), g3)) = (nt_b1 (fRd_write (nI k) g) fun g2 => nt_b1 (fRd_step g2) fun g3 => some ((1 : Int32), g3)) → (∀ code : Nat → Int32, code cs = nI k → PUSH nm code cs 1 1 v) → nt_res N t ta d cs nm g r 1 (nt_b1 (fRd_write (nI k) g) fun g2 => nt_b1 (fRd_step g2) fun g3 => some ((1 : Int32), g3)) (nt_b1 (fMo_next r) fun g15 => some (v, g15)) := by
    intro hkk v _ hP
    have hk21 : k ≠ 21 := by omega
    have hne' : ta < a := hne.resolve_left hk21
    have z := q_write (x := nI k) hg7 (show cs < 160 by omega)
    rw [z, q_b1]
    have hs2 : nt_rs N t a ta k (nt_st (nt_st g 12 cs (nI k)) 10 7 (nI (cs + 1))) r := rs_E (fun k' j h1 h2 => by rw [st_slot _ _ (by omega), st_slot _ _ (by omega)]) (fun _ _ _ => rfl) hs
    obtain ⟨g', r', a', ta', k', e1, e2, f4, f1, f2, f3⟩ := q_stepR hs2 hk21 (by omega)
    rw [e1, e2, q_b1, q_b1]
    have ec : g' 12 cs = nI k := by rw [f1 12 cs (by omega), st_slot _ _ (by omega), st_eq]
    left
    refine ⟨g', r', v, a', ta', k', 1, rfl, rfl, ⟨f4, by rw [f2 0 32 (by omega)]; exact hb, hd, by rw [f1 10 5 (by omega), st_slot _ _ (by omega), st_slot _ _ (by omega)]; exact hg5, by rw [f2 0 31 (by omega)]; exact hr31, by rw [f1 10 7 (by omega), st_eq], by omega, fun j hj => by rw [f2 0 (19 + j) (by omega)]; exact hnm j hj, fun j hj => ?_⟩, ⟨fun k' j h1 h2 => by rw [f1 k' j (by omega), st_slot _ _ (by omega), st_slot _ _ (by omega)], fun j hj => by rw [f1 12 j (by omega), st_slot _ _ (by omega), st_slot _ _ (by omega)]⟩, kM_p f2, f3, by omega, hP _ ec⟩
    by_cases e : j = cs
    · subst e
      exact ⟨k, hkl, ec⟩
    · rw [f1 12 j (by omega), st_slot _ _ (by omega), st_slot _ _ (by omega)]
      exact hcv j (by omega)
  by_cases c1 : k < 6
  · have x1 : nI k < (6 : Int32) := nI_lt (b := 6) c1 (by omega)
    rw [if_pos x1]
    have e28 : r 0 28 = 1 := by
      rcases hT with ⟨e, _⟩ | ⟨e, _⟩ | ⟨v, _, e, _⟩ | ⟨s, _, e, _⟩ | ⟨e, _⟩
      · omega
      · omega
      · omega
      · omega
      · exact e
    have z2 : ¬ (1 : Int32) = 2 := by decide
    unfold jMo_atom_123
    rw [e28, if_neg z2, if_pos hb, if_pos rfl]
    rcases q_name h with ⟨-, e⟩ | ⟨e, -⟩
    · rw [e, q_b2, if_pos hb]
      exact good (Or.inl c1) (nm k) rfl (fun code hc => PUSH_name c1 hc)
    · exact absurd c1 e
  · have x1 : ¬ nI k < (6 : Int32) := nI_nlt (b := k) (a := k) (Nat.le_refl k) (by omega) |> fun _ => nI_nlt (a := k) (b := 6) (by omega) (by omega)
    rw [if_neg x1]
    by_cases c2 : 32 ≤ k
    · have x2 : (32 : Int32) ≤ nI k := nI_le (a := 32) c2 (by omega)
      rw [if_pos x2]
      obtain ⟨v, hv, ek, e28, ew⟩ : ∃ v, v < 10000 ∧ k = 32 + v ∧ r 0 28 = 2 ∧ nt_wo r = lN v := by
        rcases hT with ⟨e, _⟩ | ⟨e, _⟩ | e | ⟨s, _, e, _⟩ | ⟨_, e, _⟩
        · omega
        · omega
        · exact e
        · omega
        · omega
      have ew' : nt_mk (r 0 130) (r 0 230) = lN v := ew
      rw [e28, if_pos rfl, q_lt, ew', lN_i]
      exact good (Or.inr c2) (nI v) rfl (fun code hc => PUSH_num hv (by rw [hc, ek]))
    · have x2 : ¬ (32 : Int32) ≤ nI k := nI_ge (b := 32) (by omega) (by omega)
      rw [if_neg x2]
      have e28 : ¬ r 0 28 = 2 := by
        rcases hT with ⟨_, e⟩ | ⟨_, e⟩ | ⟨v, _, e, _⟩ | ⟨s, _, _, e, _⟩ | ⟨e, _⟩
        · rw [e]; decide
        · rw [e]; decide
        · omega
        · rw [e]; decide
        · rw [e]; decide
      right
      rw [if_neg e28]
      unfold jMo_atom_123 jMo_atom_157
      rw [if_pos hb]
      by_cases e1 : r 0 28 = 1
      · rw [if_pos e1]
        rcases q_name h with ⟨e, -⟩ | ⟨-, r', e, f1, f2, f3⟩
        · exact absurd e c1
        · have z : ¬ r' 0 32 = 0 := by rw [f1.1]; decide
          rw [e, q_b2, if_neg z]
          exact ⟨g, r', 0, rfl, rfl, f1, pG_rf 0 g, f2⟩
      · rw [if_neg e1]
        obtain ⟨r', e, f1, f2, f3⟩ := q_fail h
        rw [e, q_b1]
        exact ⟨g, r', 0, rfl, rfl, f1, pG_rf 0 g, f2⟩
