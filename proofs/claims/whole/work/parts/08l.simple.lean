/-! ===== simple calls ===== -/
theorem qS_F {m : Nat} {g r g' r' : nt_T} (hg : ∀ k, 1 ≤ k → k ≤ 5 → g' k = g k) (hr : ∀ k, 4 ≤ k → k ≤ 7 → r' k = r k) (h11 : r' 0 11 = r 0 11) (h : nt_qS m g r) : nt_qS m g' r' := by
  unfold nt_qS at h ⊢
  rw [hg 1 (by omega) (by omega), hg 2 (by omega) (by omega), hg 3 (by omega) (by omega), hg 4 (by omega) (by omega), hg 5 (by omega) (by omega), hr 4 (by omega) (by omega), hr 5 (by omega) (by omega), hr 6 (by omega) (by omega), hr 7 (by omega) (by omega), h11]
  exact h
theorem qP_F {b n : Nat} {g r g' r' : nt_T} (hg : ∀ k, b ≤ k → k ≤ b + 5 → g' k = g k) (hr : ∀ k, 8 ≤ k → k ≤ 12 → r' k = r k) (h0 : ∀ j, j = 4 ∨ j = 17 ∨ j = 18 → r' 0 j = r 0 j) (h : nt_qP b n g r) : nt_qP b n g' r' := by
  unfold nt_qP nt_q1 at h ⊢
  rw [hg b (by omega) (by omega), hg (b + 1) (by omega) (by omega), hg (b + 2) (by omega) (by omega), hg (b + 3) (by omega) (by omega), hg (b + 4) (by omega) (by omega), hg (b + 5) (by omega) (by omega), hr 8 (by omega) (by omega), hr 9 (by omega) (by omega), hr 10 (by omega) (by omega), hr 11 (by omega) (by omega), hr 12 (by omega) (by omega), h0 4 (by omega), h0 17 (by omega), h0 18 (by omega)]
  exact h
theorem qR_F {g r g' r' : nt_T} (h1 : g' 10 1 = g 10 1) (h2 : g' 11 = g 11) (h3 : r' 0 6 = r 0 6) (h4 : r' 3 = r 3) (h : nt_qR g r) : nt_qR g' r' := by
  unfold nt_qR at h ⊢
  rw [h1, h2, h3, h4]
  exact h
theorem qI_F {n nr : Nat} {g r g' r' : nt_T} (h1 : g' 0 8 = g 0 8) (h2 : ∀ k, 28 ≤ k → k ≤ 33 → g' k = g k) (h3 : ∀ j, 44 ≤ j → j ≤ 46 → r' 0 j = r 0 j) (h4 : ∀ k, 18 ≤ k → k ≤ 20 → r' k = r k) (h : nt_qI n nr g r) : nt_qI n nr g' r' := by
  unfold nt_qI at h ⊢
  rw [h1, h2 28 (by omega) (by omega), h2 29 (by omega) (by omega), h2 32 (by omega) (by omega), h2 33 (by omega) (by omega), h3 44 (by omega) (by omega), h3 45 (by omega) (by omega), h3 46 (by omega) (by omega), h4 18 (by omega) (by omega), h4 19 (by omega) (by omega), h4 20 (by omega) (by omega)]
  exact h
theorem qH_F {g r g' r' : nt_T} (h1 : ∀ k, 44 ≤ k → k ≤ 46 → g' k = g k) (h2 : ∀ k, 21 ≤ k → k ≤ 24 → r' k = r k) (h : nt_qH g r) : nt_qH g' r' := by
  unfold nt_qH at h ⊢
  rw [h1 44 (by omega) (by omega), h1 45 (by omega) (by omega), h1 46 (by omega) (by omega), h2 21 (by omega) (by omega), h2 22 (by omega) (by omega), h2 23 (by omega) (by omega), h2 24 (by omega) (by omega)]
  exact h
theorem qI_mono {n n' nr nr' : Nat} {g r : nt_T} (hn : n ≤ n') (hr : nr ≤ nr') (h : nt_qI n nr g r) : nt_qI n' nr' g r := by
  rcases h with h | ⟨h1, n0, h2, h3, h4, h5, h6, h7, ⟨t, ht, et⟩, h9⟩
  · exact Or.inl h
  · exact Or.inr ⟨h1, n0, by omega, h3, h4, h5, h6, h7, ⟨t, by omega, et⟩, h9⟩
theorem q_lti {x : Int32} {n : Nat} (hn : n < 2 ^ 31) (h0 : ¬ x < 0) : x < nI n ↔ nt_in x n = true := by
  rw [q_in_iff hn]
  exact ⟨fun a => ⟨h0, a⟩, fun a => a.2⟩
theorem st_count {nr : Nat} {ln : Nat → Nat} {g r : nt_T} (h : nt_Rel nr ln g r) (x1 : Int32) : ∃ (v : Int32), fNt_count x1 g = some v ∧ fMo_count x1 r = some v ∧ nt_Rel nr ln g r := by
  obtain ⟨m, n, hn, hQ, hO⟩ := id h
  suffices H : ∃ v, fNt_count x1 g = some v ∧ fMo_count x1 r = some v by
    obtain ⟨v, a, b⟩ := H
    exact ⟨v, a, b, h⟩
  obtain ⟨kr, -, r1, r2, -⟩ := hO.1
  unfold fNt_count fMo_count
  rw [q_moin (x := x1) (n := 6) (by omega) (by decide), q_b1, hQ.1.2.1, hQ.1.2.2.1, hQ.2.2.2.1, hQ.2.2.2.2.1, hQ.2.2.2.2.2.1, hQ.2.2.2.2.2.2.1, r1, r2, (qT_c hQ.2.1).1, (qT_c hQ.2.1).2]
  cases h6 : nt_in x1 6
  · have hne : ∀ k, k < 6 → ¬ x1 = nI k := fun k hk e => by rw [e, q_in hk (by omega)] at h6; cases h6
    rw [if_pos (show bI false = 0 from rfl), if_neg (show ¬ x1 = (0 : Int32) from hne 0 (by omega)), if_neg (show ¬ x1 = (1 : Int32) from hne 1 (by omega)), if_neg (show ¬ x1 = (2 : Int32) from hne 2 (by omega)), if_neg (show ¬ x1 = (3 : Int32) from hne 3 (by omega)), if_neg (show ¬ x1 = (4 : Int32) from hne 4 (by omega)), if_neg (show ¬ x1 = (5 : Int32) from hne 5 (by omega))]
    exact ⟨_, rfl, rfl⟩
  · obtain ⟨k, hk, rfl⟩ := q_in_of (by omega) h6
    rw [if_neg (show ¬ bI true = 0 by decide)]
    rcases (show k = 0 ∨ k = 1 ∨ k = 2 ∨ k = 3 ∨ k = 4 ∨ k = 5 by omega) with rfl | rfl | rfl | rfl | rfl | rfl
    · exact ⟨_, rfl, rfl⟩
    · exact ⟨_, rfl, rfl⟩
    · exact ⟨_, rfl, rfl⟩
    · exact ⟨_, rfl, rfl⟩
    · exact ⟨_, rfl, rfl⟩
    · exact ⟨_, rfl, rfl⟩
theorem st_left {nr : Nat} {ln : Nat → Nat} {g r : nt_T} (h : nt_Rel nr ln g r) : ∃ (v : Int32), fNt_left g = some v ∧ fMo_left r = some v ∧ nt_Rel nr ln g r := by
  obtain ⟨m, n, hn, hQ, hO⟩ := id h
  suffices H : ∃ v, fNt_left g = some v ∧ fMo_left r = some v by
    obtain ⟨v, a, b⟩ := H
    exact ⟨v, a, b, h⟩
  unfold fNt_left fMo_left
  have hC : ∃ y, nt_it (fun z => bNt_left_4 g z.1 z.2) nt_fu ((0 : Int32), (0 : Int32)) = some y ∧ ∀ i, i < 32 → bt y i = decide (0 < cntB (fun p => bt (kn r m p) i) n) := by
    refine q_loop (fun k st => ∃ v, st = (v, nI k) ∧ ∀ i, i < 32 → bt v i = decide (0 < cntB (fun p => bt (kn r m p) i) k)) _ n (by omega) ⟨0, rfl, fun i hi => by rw [b_0, cntB]; rfl⟩ ?_ ?_
    · intro k st hk hI
      obtain ⟨v, rfl, hB⟩ := hI
      left
      show ∃ s', bNt_left_4 g v (nI k) = some (.inl s') ∧ _
      unfold bNt_left_4
      rw [hQ.2.2.2.1, if_neg (nI_ge hk (by omega)), q_knows (Or.inl rfl) hQ.1 hQ.2.2 hk, q_b1, q_lt, q_lt, nI_1]
      refine ⟨_, rfl, _, rfl, fun i hi => ?_⟩
      rw [b_or, hB i hi, cntB]
      cases bt (kn r m k) i <;> simp
    · intro st hI
      obtain ⟨v, rfl, hB⟩ := hI
      refine ⟨v, ?_, hB⟩
      show bNt_left_4 g v (nI n) = _
      unfold bNt_left_4
      rw [hQ.2.2.2.1, if_pos (nI_le (Nat.le_refl n) (by omega))]
  obtain ⟨y, hy, hB⟩ := hC
  have hm := hQ.1.1
  have hD : ∃ z, nt_it (fun z => bMo_left_11 r z.1 z.2) nt_fu (((1 : Int32) <<< (nI m &&& 31)) - (1 : Int32), (0 : Int32)) = some z ∧ ∀ i, i < 32 → bt z i = (decide (i < m) && !decide (0 < cntB (fun p => bt (kn r m p) i) n)) := by
    refine q_loop (fun k st => ∃ v, st = (v, nI k) ∧ ∀ i, i < 32 → bt v i = (decide (i < m) && !decide (0 < cntB (fun p => bt (kn r m p) i) k))) _ n (by omega) ⟨_, rfl, fun i hi => by rw [q_all m (by omega) i hi, cntB]; simp⟩ ?_ ?_
    · intro k st hk hI
      obtain ⟨v, rfl, hB⟩ := hI
      left
      show ∃ s', bMo_left_11 r v (nI k) = some (.inl s') ∧ _
      unfold bMo_left_11
      rw [hQ.2.2.2.2.1, if_neg (nI_ge hk (by omega)), q_known hQ.1 (show k < 9 by omega) r rfl rfl, q_b1, q_lt, q_lt, nI_1]
      refine ⟨_, rfl, _, rfl, fun i hi => ?_⟩
      rw [b_and, q_not _ hi, hB i hi, cntB]
      show _ = (decide (i < m) && !decide (0 < cntB (fun p => bt (kn r m p) i) k + (if bt (kn r m k) i = true then 1 else 0)))
      show ((decide (i < m) && !decide (0 < cntB (fun p => bt (kn r m p) i) k)) && !bt (kn r m k) i) = _
      cases bt (kn r m k) i <;> simp
    · intro st hI
      obtain ⟨v, rfl, hB⟩ := hI
      refine ⟨v, ?_, hB⟩
      show bMo_left_11 r v (nI n) = _
      unfold bMo_left_11
      rw [hQ.2.2.2.2.1, if_pos (nI_le (Nat.le_refl n) (by omega))]
  obtain ⟨z, hz, hB2⟩ := hD
  rw [hy, q_b1, qS_all hQ.1, q_b1, hQ.1.2.2.1, q_lt, hz, q_b1]
  refine ⟨_, rfl, ?_⟩
  congr 1
  refine b_ext (fun i hi => ?_)
  rw [b_and, q_not _ hi, q_all m (by omega) i hi, hB i hi, hB2 i hi]
theorem q_under : ∀ k, k < 6 → ∀ q, q < 6 → fSh_isUnder 0 (nI q) (fun c _ => if c = 2 then nI k else 0) = some (bI (nt_it (fun z => bMo_taken_33 0 (nI q) nt_g0 z) 8 (nI k) == some (nI q))) ∧ (nt_it (fun z => bMo_taken_33 0 (nI q) nt_g0 z) nt_fu (nI k)).isSome = true ∧ nt_it (fun z => bMo_taken_33 0 (nI q) nt_g0 z) nt_fu (nI k) = nt_it (fun z => bMo_taken_33 0 (nI q) nt_g0 z) 8 (nI k) := by decide +kernel
theorem st_taken {nr : Nat} {ln : Nat → Nat} {g r : nt_T} (h : nt_Rel nr ln g r) (x1 x2 : Int32) : ∃ (v : Int32), fNt_taken x1 x2 g = some v ∧ fMo_taken x1 x2 r = some v ∧ nt_Rel nr ln g r := by
  obtain ⟨m, n, hn, hQ, hO⟩ := id h
  have hm := hQ.1.1
  suffices H : ∃ v, fNt_taken x1 x2 g = some v ∧ fMo_taken x1 x2 r = some v by
    obtain ⟨v, a, b⟩ := H
    exact ⟨v, a, b, h⟩
  unfold fNt_taken fMo_taken
  rw [q_below (y := (6 : Int32)) (n := 6) (by omega) rfl, q_moin (x := x2) (n := 6) (by omega) (by decide), q_b1, q_b1]
  cases h6 : nt_in x2 6
  · exact ⟨_, if_pos rfl, if_pos rfl⟩
  · obtain ⟨q, hq, rfl⟩ := q_in_of (by omega) h6
    rw [if_neg (show ¬ bI true = 0 by decide), if_neg (show ¬ bI true = 0 by decide), qS_has hQ.1, qS_is hQ.1, q_b1, q_b1]
    cases hsm : nt_in x1 m
    · exact ⟨_, if_pos rfl, if_pos rfl⟩
    · obtain ⟨s, hs, rfl⟩ := q_in_of (by omega) hsm
      rw [if_neg (show ¬ bI true = 0 by decide), if_neg (show ¬ bI true = 0 by decide)]
      obtain ⟨a1, a2, a3, a4, ⟨k, hk, ek⟩, -⟩ := hQ.1.2.2.2 s hs
      obtain ⟨u1, u2, u3⟩ := q_under k hk q hq
      have e1 : fSh_isUnder (nI s) (nI q) g = fSh_isUnder 0 (nI q) (fun c _ => if c = 2 then nI k else 0) := by
        unfold fSh_isUnder
        rw [q_gd (q_in (show s < 8 by omega) (by omega)), nI_clamp (show s < 2 ^ 31 by omega), a1, ek]
        rfl
      have e2 : ∀ z, bMo_taken_33 (nI s) (nI q) r z = bMo_taken_33 0 (nI q) nt_g0 z := fun z => rfl
      have e3 : nt_it (fun z => bMo_taken_33 (nI s) (nI q) r z) nt_fu (nI k) = nt_it (fun z => bMo_taken_33 0 (nI q) nt_g0 z) 8 (nI k) := by
        rw [← u3]
        congr 1
      rw [e1, u1, q_b1, q_gd (q_in (show s < 8 by omega) (by omega)), q_gd (q_in (show s < 8 by omega) (by omega)), nI_clamp (show s < 2 ^ 31 by omega), ek, q_lt, e3]
      rw [u3] at u2
      cases hv : nt_it (fun z => bMo_taken_33 0 (nI q) nt_g0 z) 8 (nI k) with
      | none => rw [hv] at u2; cases u2
      | some v =>
        rw [q_b1]
        unfold jMo_taken_51
        rw [q_gd (q_in (show s < 8 by omega) (by omega)), nI_clamp (show s < 2 ^ 31 by omega), a3]
        by_cases hvq : v = nI q
        · rw [if_pos hvq, if_neg (by rw [hvq]; simp [bI])]
          exact ⟨_, rfl, rfl⟩
        · rw [if_neg hvq, if_pos (by simp [bI, hvq])]
          exact ⟨_, rfl, rfl⟩
theorem q_addC {m : Nat} {g : nt_T} (h8 : m < 8) (hg : g 1 4 = nI m) (x1 x2 x3 : Int32) : fSh_add x1 x2 x3 g = some (nI m, nt_st (nt_st (nt_st (nt_st (nt_st g 2 m x1) 3 m x2) 4 m x3) 5 m (-1)) 1 4 (nI (m + 1))) := by
  have c1 : nI m < (8 : Int32) := (nI_ltI (a := m) (b := 8) (by omega) (by omega)).mpr h8
  have hin := q_in h8 (by omega)
  have hcl := nI_clamp (show m < 2 ^ 31 by omega)
  have e1 : nI (m + 1) - 1 = nI m := nI_pred m
  unfold fSh_add
  simp [q_lt, st_app, hg, c1, hin, hcl, q_gt, nI_1, e1]
theorem q_addM {m : Nat} {r : nt_T} (h8 : m < 8) (hr : r 0 11 = nI m) (x1 x2 x3 : Int32) : (nt_gd (nt_in (r 0 11) 8) <| nt_lt (nt_st r 4 (Int32.toNatClampNeg (r 0 11)) x1) fun g9 => nt_gd (nt_in (g9 0 11) 8) <| nt_lt (nt_st g9 5 (Int32.toNatClampNeg (g9 0 11)) x2) fun g11 => nt_gd (nt_in (g11 0 11) 8) <| nt_lt (nt_st g11 6 (Int32.toNatClampNeg (g11 0 11)) x3) fun g13 => nt_gd (nt_in (g13 0 11) 8) <| nt_lt (nt_st g13 7 (Int32.toNatClampNeg (g13 0 11)) (-1 : Int32)) fun g15 => nt_lt (nt_st g15 0 11 ((g15 0 11) + (1 : Int32))) fun g16 => some (((g16 0 11) - (1 : Int32)), g16)) = some (nI m, nt_st (nt_st (nt_st (nt_st (nt_st r 4 m x1) 5 m x2) 6 m x3) 7 m (-1)) 0 11 (nI (m + 1))) := by
  have hin := q_in h8 (by omega)
  have hcl := nI_clamp (show m < 2 ^ 31 by omega)
  have e1 : nI (m + 1) - 1 = nI m := nI_pred m
  simp [q_lt, st_app, hr, hin, hcl, q_gt, nI_1, e1]
theorem st_story {nr : Nat} {ln : Nat → Nat} {g r : nt_T} (h : nt_Rel nr ln g r) (x1 x2 x3 : Int32) : ∃ (v : Int32) (ga : nt_T) (gb : nt_T), fNt_story x1 x2 x3 g = some (v, ga) ∧ fMo_story x1 x2 x3 r = some (v, gb) ∧ nt_Rel nr ln ga gb := by
  obtain ⟨m, n, hn, hQ, hO⟩ := id h
  obtain ⟨hm, hg4, hr11, hq⟩ := id hQ.1
  unfold fNt_story fMo_story
  rw [q_below (y := (6 : Int32)) (n := 6) (by omega) rfl, q_moin (x := x1) (n := 6) (by omega) (by decide), q_b1, q_b1]
  cases h1 : nt_in x1 6
  · exact ⟨_, _, _, if_pos rfl, if_pos rfl, h⟩
  · rw [if_neg (show ¬ bI true = 0 by decide), if_neg (show ¬ bI true = 0 by decide), q_below (y := (10 : Int32)) (n := 10) (by omega) rfl, q_moin (x := x2) (n := 10) (by omega) (by decide), q_b1, q_b1]
    cases h2 : nt_in x2 10
    · exact ⟨_, _, _, if_pos rfl, if_pos rfl, h⟩
    · rw [if_neg (show ¬ bI true = 0 by decide), if_neg (show ¬ bI true = 0 by decide), q_below (y := (10 : Int32)) (n := 10) (by omega) rfl, q_moin (x := x3) (n := 10) (by omega) (by decide), q_b1, q_b1]
      cases h3 : nt_in x3 10
      · exact ⟨_, _, _, if_pos rfl, if_pos rfl, h⟩
      · rw [if_neg (show ¬ bI true = 0 by decide), if_neg (show ¬ bI true = 0 by decide)]
        obtain ⟨k, hk, rfl⟩ := q_in_of (by omega) h1
        obtain ⟨w, hw, rfl⟩ := q_in_of (by omega) h2
        obtain ⟨u, hu, rfl⟩ := q_in_of (by omega) h3
        by_cases h8 : m < 8
        · have c2 : ¬ nI m = (8 : Int32) := fun e => by
            have := (nI_eq (a := m) (b := 8) (by omega) (by omega)).mp e
            omega
          rw [if_neg (by rw [hr11]; exact c2), q_addC h8 hg4, q_b2, q_addM h8 hr11]
          refine ⟨_, _, _, rfl, rfl, m + 1, n, hn, ⟨⟨by omega, st_eq _ _ _ _, st_eq _ _ _ _, fun s hs => ?_⟩, ?_, ?_⟩, ?_, ?_, ?_⟩
          · by_cases e : s = m
            · subst e
              simp only [st_app]
              simp
              exact ⟨⟨k, hk, rfl⟩, ⟨w, hw, rfl⟩, ⟨u, hu, rfl⟩⟩
            · simp only [st_app]
              simp [e]
              obtain ⟨a1, a2, a3, a4, a5, a6, a7, a8⟩ := hq s (by omega)
              refine ⟨a1, a2, a3, a4, a5, a6, a7, ?_⟩
              rcases a8 with b | ⟨t, ht, et⟩
              · exact Or.inl b
              · exact Or.inr ⟨t, by omega, et⟩
          · exact qT_F (by simp [st_app]) (fun k hk => by (repeat rw [st_row _ _ _ (by omega)])) (by (repeat rw [st_row _ _ _ (by omega)])) (by (repeat rw [st_row _ _ _ (by omega)])) (by simp [st_app]) (by simp [st_app]) hQ.2.1
          · exact qP_F (fun k h1 h2 => by (repeat rw [st_row _ _ _ (by omega)])) (fun k h1 h2 => by (repeat rw [st_row _ _ _ (by omega)])) (fun j hj => by rcases hj with rfl | rfl | rfl <;> simp [st_app]) hQ.2.2
          · exact qR_F (by simp [st_app]) (by (repeat rw [st_row _ _ _ (by omega)])) (by simp [st_app]) (by (repeat rw [st_row _ _ _ (by omega)])) hO.1
          · exact qI_F (by simp [st_app]) (fun k h1 h2 => by (repeat rw [st_row _ _ _ (by omega)])) (fun j h1 h2 => by rw [st_slot _ _ (by omega), st_slot _ _ (by omega), st_slot _ _ (by omega), st_slot _ _ (by omega), st_slot _ _ (by omega)]) (fun k h1 h2 => by (repeat rw [st_row _ _ _ (by omega)])) hO.2.1
          · exact qH_F (fun k h1 h2 => by (repeat rw [st_row _ _ _ (by omega)])) (fun k h1 h2 => by (repeat rw [st_row _ _ _ (by omega)])) hO.2.2
        · obtain rfl : m = 8 := by omega
          have c2 : r 0 11 = (8 : Int32) := hr11
          have c1 : ¬ g 1 4 < (8 : Int32) := by rw [hg4]; decide
          unfold fSh_add
          rw [if_neg c1, if_pos c2, q_b2]
          exact ⟨_, _, _, rfl, rfl, h⟩
