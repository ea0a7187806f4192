/-! ===== both readers take one token ===== -/
def nt_in0 (N t : Nat) (g r : nt_T) : Prop := N ≤ 160 ∧ t < 6 ∧ g 10 1 = nI N ∧ r 0 25 = nI (160 * t) ∧ r 0 26 = nI N ∧ ∀ j, j < N → g 11 j = r 1 (160 * t + j) ∧ ∃ c, c < 256 ∧ r 1 (160 * t + j) = nI c
def nt_kG (g g' : nt_T) : Prop := ∀ k j, ¬ (k = 10 ∧ (j = 2 ∨ j = 3 ∨ j = 4)) → g' k j = g k j
def nt_kM (r r' : nt_T) : Prop := ∀ k j, ¬ (k = 0 ∧ (27 ≤ j ∧ j ≤ 29 ∨ j = 130 ∨ j = 230)) → r' k j = r k j
theorem kG_rf (g : nt_T) : nt_kG g g := fun _ _ _ => rfl
theorem kM_rf (g : nt_T) : nt_kM g g := fun _ _ _ => rfl
theorem kG_tr {g g' g'' : nt_T} (h : nt_kG g g') (h' : nt_kG g' g'') : nt_kG g g'' := fun k j q => (h' k j q).trans (h k j q)
theorem kM_tr {g g' g'' : nt_T} (h : nt_kM g g') (h' : nt_kM g' g'') : nt_kM g g'' := fun k j q => (h' k j q).trans (h k j q)
theorem kG_st {g : nt_T} {j : Nat} (v : Int32) (h : j = 2 ∨ j = 3 ∨ j = 4) : nt_kG g (nt_st g 10 j v) := fun k' j' q => st_slot _ _ (by omega)
theorem kM_st {g : nt_T} {j : Nat} (v : Int32) (h : 27 ≤ j ∧ j ≤ 29) : nt_kM g (nt_st g 0 j v) := fun k' j' q => st_slot _ _ (by omega)
theorem stl_app (g : nt_T) (k j : Nat) (v : Int64) (k' j' : Nat) : nt_stl g k j v k' j' = if k' = k ∧ j' = 200 + j then nt_lo v else if k' = k ∧ j' = 100 + j then nt_hi v else g k' j' := by
  unfold nt_stl
  by_cases h : k' = k
  · subst h
    rw [show nt_sc g k' (upd (upd (g k') (100 + j) (nt_hi v)) (200 + j) (nt_lo v)) k' = upd (upd (g k') (100 + j) (nt_hi v)) (200 + j) (nt_lo v) from if_pos rfl]
    by_cases h2 : j' = 200 + j
    · subst h2
      rw [pk_us, if_pos ⟨rfl, rfl⟩]
    · rw [pk_un h2, if_neg (fun q => h2 q.2)]
      by_cases h3 : j' = 100 + j
      · subst h3
        rw [pk_us, if_pos ⟨rfl, rfl⟩]
      · rw [pk_un h3, if_neg (fun q => h3 q.2)]
  · rw [show nt_sc g k (upd (upd (g k) (100 + j) (nt_hi v)) (200 + j) (nt_lo v)) k' = g k' from if_neg h, if_neg (fun q => h q.1), if_neg (fun q => h q.1)]
theorem kM_stl (g : nt_T) (v : Int64) : nt_kM g (nt_stl g 0 30 v) := fun k' j' q => by rw [stl_app, if_neg (by omega), if_neg (by omega)]
theorem stl_mk (g : nt_T) (v : Int64) : nt_mk (nt_stl g 0 30 v 0 130) (nt_stl g 0 30 v 0 230) = v := by
  rw [stl_app, stl_app, if_neg (by omega), if_pos ⟨rfl, rfl⟩, if_pos ⟨rfl, rfl⟩, nt_mk_hl]
theorem in0_E {N t : Nat} {g r g' r' : nt_T} (hc : nt_kG g g') (hm : nt_kM r r') (h : nt_in0 N t g r) : nt_in0 N t g' r' := by
  unfold nt_in0 at h ⊢
  rw [hc 10 1 (by omega), hm 0 25 (by omega), hm 0 26 (by omega), show g' 11 = g 11 from funext (fun j => hc 11 j (by omega)), show r' 1 = r 1 from funext (fun j => hm 1 j (by omega))]
  exact h
theorem q_byteAt {N t : Nat} {g r : nt_T} (h : nt_in0 N t g r) {x : Nat} (hx : x < 2 ^ 30) : fMo_byteAt (nI x) r = some (if x < N then r 1 (160 * t + x) else -1) := by
  obtain ⟨h1, h2, h3, h4, h5, h6⟩ := h
  unfold fMo_byteAt
  rw [h5, h4]
  by_cases c : x < N
  · rw [if_neg (nI_ge c (by omega)), if_pos c, nI_add, q_gd (q_in (show 160 * t + x < 960 by omega) (by omega)), nI_clamp (show 160 * t + x < 2 ^ 31 by omega)]
  · rw [if_pos (nI_le (by omega) (by omega)), if_neg c]
def SI (c : Nat) : Nat := if c = 40 then 0 else if c = 41 then 1 else if c = 59 then 2 else if c = 43 then 3 else if c = 45 then 4 else if c = 42 then 5 else if c = 60 then 6 else if c = 61 then 7 else 8
def SG (s : Nat) : Nat := if s = 0 then 40 else if s = 1 then 41 else if s = 2 then 59 else if s = 3 then 43 else if s = 4 then 45 else if s = 5 then 42 else if s = 6 then 60 else 61
theorem pc_byte : ∀ c, c < 256 → fRd_isLetter (nI c) nt_g0 = some (bI (decide (97 ≤ c ∧ c ≤ 122))) ∧ fRd_isDigit (nI c) nt_g0 = some (bI (decide (48 ≤ c ∧ c ≤ 57))) ∧ fMo_in (Int32.toInt64 (nI c)) (97 : Int64) (122 : Int64) nt_g0 = some (bI (decide (97 ≤ c ∧ c ≤ 122))) ∧ fMo_in (Int32.toInt64 (nI c)) (48 : Int64) (57 : Int64) nt_g0 = some (bI (decide (48 ≤ c ∧ c ≤ 57))) := by decide +kernel
theorem pc_neg : fMo_in (Int32.toInt64 (-1)) (97 : Int64) (122 : Int64) nt_g0 = some (bI false) ∧ fMo_in (Int32.toInt64 (-1)) (48 : Int64) (57 : Int64) nt_g0 = some (bI false) := by decide +kernel
theorem q_byte4 {c : Nat} (hc : c < 256) (g r : nt_T) : fRd_isLetter (nI c) g = some (bI (decide (97 ≤ c ∧ c ≤ 122))) ∧ fRd_isDigit (nI c) g = some (bI (decide (48 ≤ c ∧ c ≤ 57))) ∧ fMo_in (Int32.toInt64 (nI c)) (97 : Int64) (122 : Int64) r = some (bI (decide (97 ≤ c ∧ c ≤ 122))) ∧ fMo_in (Int32.toInt64 (nI c)) (48 : Int64) (57 : Int64) r = some (bI (decide (48 ≤ c ∧ c ≤ 57))) := pc_byte c hc
theorem q_neg (r : nt_T) : fMo_in (Int32.toInt64 (-1)) (97 : Int64) (122 : Int64) r = some (bI false) ∧ fMo_in (Int32.toInt64 (-1)) (48 : Int64) (57 : Int64) r = some (bI false) := pc_neg
theorem pc_sign : ∀ c, c < 256 → fJl_indexOf_4cfef 2 (nt_u16 (nI c)) (0 : Int32) ((Int32.ofNat (nt_len.getD 2 0)) >>> ((0 : Int32) &&& 31)) nt_g0 = some (if SI c < 8 then nI (SI c) else -1) := by decide +kernel
theorem q_sign {c : Nat} (hc : c < 256) (g : nt_T) : fJs_indexOf_0f7a4 2 (nt_u16 (nI c)) g = some (if SI c < 8 then nI (SI c) else -1, g) := by
  have h := pc_sign c hc
  have h : fJl_indexOf_4cfef 2 (nt_u16 (nI c)) (0 : Int32) ((Int32.ofNat (nt_len.getD 2 0)) >>> ((0 : Int32) &&& 31)) g = some (if SI c < 8 then nI (SI c) else -1) := h
  have e1 : fJs_isLatin1_aae02 2 g = some 1 := by
    unfold fJs_isLatin1_aae02
    rw [if_neg (by decide), if_pos rfl]
  have e2 : fJs_length_8abf5 2 g = some ((Int32.ofNat (nt_len.getD 2 0)) >>> ((0 : Int32) &&& 31)) := by
    unfold fJs_length_8abf5 fJs_coder_7d493
    rw [if_neg (by decide), q_b1]
  unfold fJs_indexOf_0f7a4 fJs_indexOf_7cf53
  rw [e1, q_b1, if_neg (by decide), e2, q_b1, h, q_b1, q_b2]
/-- spaces and ends of line -/
theorem q_skip {N t a : Nat} {g r : nt_T} (h : nt_in0 N t g r) (hg : g 10 2 = nI a) (hr : r 0 27 = nI a) (ha : a ≤ N) : ∃ g' r' b, nt_it (fun z => bRd_step_0 z) nt_fu g = some g' ∧ nt_it (fun z => bMo_next_0 z) nt_fu r = some r' ∧ nt_kG g g' ∧ nt_kM r r' ∧ a ≤ b ∧ b ≤ N ∧ g' 10 2 = nI b ∧ r' 0 27 = nI b := by
  have hN := h.1
  have H : ∃ x y, nt_it (fun z => bRd_step_0 z) nt_fu g = some x ∧ nt_it (fun z => bMo_next_0 z) nt_fu r = some y ∧ ∃ b, nt_kG g x ∧ nt_kM r y ∧ a ≤ b ∧ b ≤ N ∧ x 10 2 = nI b ∧ y 0 27 = nI b := by
    refine q_both (fun i x y => nt_kG g x ∧ nt_kM r y ∧ x 10 2 = nI (a + i) ∧ y 0 27 = nI (a + i)) _ (N - a) (by omega) ⟨kG_rf g, kM_rf r, hg, hr⟩ ?_ ?_
    · intro i x y hi hI
      obtain ⟨e1, e2, e3, e4⟩ := hI
      have h' := in0_E e1 e2 h
      obtain ⟨c, hc, ec⟩ := (h'.2.2.2.2.2 (a + i) (by omega)).2
      have et := (h'.2.2.2.2.2 (a + i) (by omega)).1
      unfold bRd_step_0 bMo_next_0 jRd_step_39 jMo_next_26
      rw [e3, e4, h'.2.2.1, if_neg (nI_ge (show a + i < N by omega) (by omega)), q_byteAt h' (by omega), q_b1, q_b1]
      simp only [q_in (show a + i < 160 by omega) (show 160 < 2 ^ 31 by omega), q_gt, nI_clamp (show a + i < 2 ^ 31 by omega), et, if_pos (show a + i < N by omega), q_lt, nI_1]
      have go : nt_kG g (nt_st x 10 2 (nI (a + i + 1))) ∧ nt_kM r (nt_st y 0 27 (nI (a + i + 1))) ∧ (nt_st x 10 2 (nI (a + i + 1))) 10 2 = nI (a + (i + 1)) ∧ (nt_st y 0 27 (nI (a + i + 1))) 0 27 = nI (a + (i + 1)) := ⟨kG_tr e1 (kG_st _ (by omega)), kM_tr e2 (kM_st _ (by omega)), st_eq _ _ _ _, st_eq _ _ _ _⟩
      by_cases c1 : y 1 (160 * t + (a + i)) = 32
      · rw [if_pos c1, if_pos c1]
        exact Or.inl ⟨_, _, rfl, rfl, go⟩
      · rw [if_neg c1, if_neg c1]
        by_cases c2 : y 1 (160 * t + (a + i)) = 10
        · rw [if_pos c2, if_pos c2]
          exact Or.inl ⟨_, _, rfl, rfl, go⟩
        · rw [if_neg c2, if_neg c2]
          exact Or.inr ⟨x, y, rfl, rfl, a + i, e1, e2, by omega, by omega, e3, e4⟩
    · intro x y hI
      obtain ⟨e1, e2, e3, e4⟩ := hI
      have h' := in0_E e1 e2 h
      refine ⟨x, y, ?_, ?_, N, e1, e2, ha, Nat.le_refl N, by rw [e3]; congr 1; omega, by rw [e4]; congr 1; omega⟩
      · unfold bRd_step_0
        rw [e3, h'.2.2.1, if_pos (nI_le (by omega) (by omega))]
      · unfold bMo_next_0
        have z1 : ¬ (-1 : Int32) = 32 := by decide
        have z2 : ¬ (-1 : Int32) = 10 := by decide
        rw [e4, q_byteAt h' (by omega), if_neg (by omega), q_b1, q_b1, if_neg z1, if_neg z2]
  obtain ⟨x, y, e1, e2, b, f⟩ := H
  exact ⟨x, y, b, e1, e2, f⟩
