/-! ===== sheets ===== -/
theorem Rel_H {nr : Nat} {ln : Nat → Nat} {g r g' r' : nt_T} (h : nt_Rel nr ln g r) (hH : nt_qH g' r') (hg : ∀ k, k < 44 ∨ 46 < k → g' k = g k) (hr : ∀ k, k < 21 → r' k = r k) : nt_Rel nr ln g' r' := by
  obtain ⟨m, n, hn, hQ, hO⟩ := h
  exact ⟨m, n, hn, ⟨qS_F (fun k h1 h2 => hg k (by omega)) (fun k h1 h2 => hr k (by omega)) (by rw [hr 0 (by omega)]) hQ.1, qT_F (by rw [hg 6 (by omega)]) (fun k hk => hg k (by omega)) (hr 1 (by omega)) (hr 2 (by omega)) (by rw [hr 0 (by omega)]) (by rw [hr 0 (by omega)]) hQ.2.1, qP_F (fun k h1 h2 => hg k (by omega)) (fun k h1 h2 => hr k (by omega)) (fun j hj => by rw [hr 0 (by omega)]) hQ.2.2⟩, qR_F (by rw [hg 10 (by omega)]) (hg 11 (by omega)) (by rw [hr 0 (by omega)]) (hr 3 (by omega)) hO.1, qI_F (by rw [hg 0 (by omega)]) (fun k h1 h2 => hg k (by omega)) (fun j h1 h2 => by rw [hr 0 (by omega)]) (fun k h1 h2 => hr k (by omega)) hO.2.1, hH⟩
theorem q_sh (x : Int32) (g r : nt_T) : fSs_has x g = some (bI (nt_in x 4)) ∧ fMo_isSheet x r = some (bI (nt_in x 4)) := by
  constructor
  · unfold fSs_has
    rw [q_below (y := (4 : Int32)) (n := 4) (by omega) rfl, q_b1, q_gd (q_nb _)]
  · unfold fMo_isSheet
    rw [q_moin (n := 4) (by omega) (by decide), q_b1, q_gd (q_nb _)]
theorem q_miss {c : Nat} (hc : c < 4) (g : nt_T) : fSs_isMissing (nI c) g = some (bI (decide (g 44 c = -1))) := by
  unfold fSs_isMissing
  rw [q_gd (q_in hc (by omega)), nI_clamp (show c < 2 ^ 31 by omega)]
  by_cases h : g 44 c = -1
  · rw [if_pos h, decide_eq_true h]; rfl
  · rw [if_neg h, decide_eq_false h]; rfl
theorem q_ix40 (c i : Nat) : (nI c * (40 : Int32)) + nI i = nI (40 * c + i) ∧ ((40 : Int32) * nI c) + nI i = nI (40 * c + i) := by
  have e1 : nI c * (40 : Int32) = nI (c * 40) := pk_mul c 40
  have e2 : (40 : Int32) * nI c = nI (40 * c) := pk_mul 40 c
  rw [e1, e2, nI_add, nI_add]
  exact ⟨by congr 1; omega, rfl⟩
theorem q_lay {c : Nat} (hc : c < 4) (k n : Int32) (g : nt_T) : ∃ g', fSs_lay (nI c) k n g = some g' ∧ (∀ d, g' 44 d = if d = c then k else g 44 d) ∧ (∀ d, g' 45 d = if d = c then n else g 45 d) ∧ (∀ j, g' 46 j = if 40 * c ≤ j ∧ j < 40 * c + 40 then 0 else g 46 j) ∧ ∀ q, q < 44 ∨ 46 < q → g' q = g q := by
  unfold fSs_lay
  rw [q_gd (q_in hc (by omega)), q_lt, q_gd (q_in hc (by omega)), q_lt, nI_clamp (show c < 2 ^ 31 by omega)]
  have H : ∃ y, nt_it (fun z => bSs_lay_17 (nI c) z.1 z.2) nt_fu ((0 : Int32), nt_st (nt_st g 44 c k) 45 c n) = some y ∧ ((∀ j, y 46 j = if 40 * c ≤ j ∧ j < 40 * c + 40 then 0 else g 46 j) ∧ ∀ q, q ≠ 46 → y q = nt_st (nt_st g 44 c k) 45 c n q) := by
    refine q_loop (fun i st => ∃ g1, st = (nI i, g1) ∧ (∀ j, g1 46 j = if 40 * c ≤ j ∧ j < 40 * c + i then 0 else g 46 j) ∧ ∀ q, q ≠ 46 → g1 q = nt_st (nt_st g 44 c k) 45 c n q) _ 40 (by omega) ⟨_, rfl, fun j => by rw [st_slot _ _ (by omega), st_slot _ _ (by omega), if_neg (by omega)], fun _ _ => rfl⟩ ?_ ?_
    · intro i st hi hI
      obtain ⟨g1, rfl, h1, h2⟩ := hI
      left
      show ∃ s', bSs_lay_17 (nI c) (nI i) g1 = some (.inl s') ∧ _
      unfold bSs_lay_17
      have q8 : ¬ (40 : Int32) ≤ nI i := nI_ge (a := i) (b := 40) hi (by omega)
      rw [if_neg q8, (q_ix40 c i).1]
      simp only [q_in (show 40 * c + i < 160 by omega) (show 160 < 2 ^ 31 by omega), q_gt, q_lt, nI_1, nI_clamp (show 40 * c + i < 2 ^ 31 by omega)]
      refine ⟨_, rfl, _, rfl, fun j => ?_, fun q hq => by rw [st_row _ _ _ hq]; exact h2 q hq⟩
      by_cases e : j = 40 * c + i
      · subst e
        rw [st_eq, if_pos (by omega)]
      · rw [st_slot _ _ (Or.inr e), h1]
        by_cases q : 40 * c ≤ j ∧ j < 40 * c + i
        · rw [if_pos q, if_pos (by omega)]
        · rw [if_neg q, if_neg (by omega)]
    · intro st hI
      obtain ⟨g1, rfl, h1, h2⟩ := hI
      refine ⟨g1, ?_, h1, h2⟩
      show bSs_lay_17 (nI c) (nI 40) g1 = _
      unfold bSs_lay_17
      rw [if_pos (show (40 : Int32) ≤ nI 40 from nI_le (a := 40) (b := 40) (Nat.le_refl 40) (by omega))]
  obtain ⟨y, hy, h1, h2⟩ := H
  rw [hy, q_b1]
  refine ⟨y, rfl, fun d => ?_, fun d => ?_, h1, fun q hq => ?_⟩
  · rw [h2 44 (by omega), st_slot _ _ (by omega), st_app]
    by_cases e : d = c <;> simp [e]
  · rw [h2 45 (by omega), st_app]
    by_cases e : d = c
    · simp [e]
    · simp [e]
      rw [st_slot _ _ (by omega)]
  · rw [h2 q (by omega), st_row _ _ _ (by omega), st_row _ _ _ (by omega)]
theorem q_vz : vp_nar .boolean 0 = 0 ∧ vp_nar .boolean 1 = 1 := by decide
theorem st_sheet {nr : Nat} {ln : Nat → Nat} {g r : nt_T} (h : nt_Rel nr ln g r) (x1 x2 x3 : Int32) : ∃ (v : Int32) (ga : nt_T) (gb : nt_T), fNt_sheet x1 x2 x3 g = some (v, ga) ∧ fMo_sheet x1 x2 x3 r = some (v, gb) ∧ nt_Rel nr ln ga gb := by
  have hH : nt_qH g r := by
    obtain ⟨m, n, hn, hQ, hO⟩ := h
    exact hO.2.2
  unfold fNt_sheet fMo_sheet
  rw [(q_sh x1 g r).1, (q_sh x1 g r).2, q_b1, q_b1]
  cases h1 : nt_in x1 4
  · exact ⟨_, _, _, if_pos rfl, if_pos rfl, h⟩
  · rw [if_neg (show ¬ bI true = 0 by decide), if_neg (show ¬ bI true = 0 by decide)]
    obtain ⟨c, hc, rfl⟩ := q_in_of (by omega) h1
    have hin := q_in hc (show 4 < 2 ^ 31 by omega)
    have hcl := nI_clamp (show c < 2 ^ 31 by omega)
    have hm1 : (-1 : Int32).toInt = -1 := by decide
    have h3 : (3 : Int32).toInt = 3 := by decide
    have h0 : (0 : Int32).toInt = 0 := by decide
    have hL1 : (-1 : Int64).toInt = -1 := by decide
    have hL2 : (2 : Int64).toInt = 2 := by decide
    unfold fMo_in
    by_cases a1 : x2 < -1
    · have a2 : (lg_cmp (Int32.toInt64 x2) (-1 : Int64)) < 0 := by
        rw [lg_cmp_lt, Int64.lt_iff_toInt_lt, Int32.toInt_toInt64, hL1]
        rw [Int32.lt_iff_toInt_lt, hm1] at a1
        exact a1
      rw [if_pos a1, if_pos a2, q_b1, if_pos rfl]
      exact ⟨_, _, _, rfl, rfl, h⟩
    · rw [if_neg a1]
      have a2 : ¬ (lg_cmp (Int32.toInt64 x2) (-1 : Int64)) < 0 := by
        rw [lg_cmp_lt, Int64.lt_iff_toInt_lt, Int32.toInt_toInt64, hL1]
        rw [Int32.lt_iff_toInt_lt, hm1] at a1
        exact a1
      rw [if_neg a2]
      by_cases b1 : x2 < 3
      · have b2 : ¬ 0 < (lg_cmp (Int32.toInt64 x2) (2 : Int64)) := by
          rw [lg_cmp_gt, Int64.lt_iff_toInt_lt, Int32.toInt_toInt64, hL2]
          rw [Int32.lt_iff_toInt_lt, h3] at b1
          omega
        rw [if_pos b1, if_neg b2, q_b1, if_neg (show ¬ (1 : Int32) = 0 by decide)]
        unfold jMo_sheet_34 jMo_sheet_45 jMo_sheet_59
        by_cases c1 : x2 = -1
        · subst c1
          have c2 : (-1 : Int32) < 0 := by decide
          rw [if_pos rfl, if_pos c2, if_pos c2, if_pos c2]
          simp only [hin, hcl, q_gt, q_lt, q_vz.1]
          obtain ⟨g1, e1, s1, s2, s3, s4⟩ := q_lay hc (-1) 0 g
          have e2 : nt_it (fun z => bMo_sheet_77 (nI c) (-1) x3 z.1 z.2) nt_fu ((0 : Int32), nt_st (nt_st (nt_st r 21 c 0) 22 c (-1)) 23 c x3) = some (nt_st (nt_st (nt_st r 21 c 0) 22 c (-1)) 23 c x3) := by
            refine q_run (body := fun z => bMo_sheet_77 (nI c) (-1) x3 z.1 z.2) (fun _ => ((0 : Int32), nt_st (nt_st (nt_st r 21 c 0) 22 c (-1)) 23 c x3)) _ 0 (by omega) (fun k hk => absurd hk (by omega)) ?_
            show bMo_sheet_77 (nI c) (-1) x3 0 _ = _
            unfold bMo_sheet_77
            rw [if_pos c2, ite_self]
          rw [e1, q_b1, e2, q_b1]
          refine ⟨_, _, _, rfl, rfl, Rel_H h (fun d hd => ?_) s4 (fun k hk => by rw [st_row _ _ _ (by omega), st_row _ _ _ (by omega), st_row _ _ _ (by omega)])⟩
          by_cases e : d = c
          · left
            rw [s1, if_pos e, st_slot _ _ (by omega), st_slot _ _ (by omega), e, st_eq]
            exact ⟨rfl, rfl⟩
          · rw [s1, if_neg e, s2, if_neg e, st_slot _ _ (by omega), st_slot _ _ (by omega), st_slot r _ (by omega), st_slot _ _ (show (22 : Nat) ≠ 23 ∨ d ≠ c by omega), st_slot _ _ (show (22 : Nat) ≠ 22 ∨ d ≠ c by omega), st_slot _ _ (show (22 : Nat) ≠ 21 ∨ d ≠ c by omega), st_slot _ _ (show (23 : Nat) ≠ 23 ∨ d ≠ c by omega), st_slot _ _ (show (23 : Nat) ≠ 22 ∨ d ≠ c by omega), st_slot _ _ (show (23 : Nat) ≠ 21 ∨ d ≠ c by omega)]
            rcases hH d hd with f | ⟨k, N, f1, f2, f3, f4, f5, f6, f7, f8⟩
            · exact Or.inl f
            · refine Or.inr ⟨k, N, f1, f2, f3, f4, f5, f6, f7, fun i hi => ?_⟩
              rw [s3, if_neg (by omega), st_slot _ _ (by omega), st_slot _ _ (by omega), st_slot _ _ (by omega)]
              exact f8 i hi
        · rw [if_neg c1]
          have c2 : ¬ x2 < 0 := by
            rw [Int32.lt_iff_toInt_lt, hm1] at a1
            rw [Int32.lt_iff_toInt_lt, h0]
            intro z
            exact c1 (Int32.toInt_inj.mp (by rw [hm1]; omega))
          rw [if_neg c2, if_neg c2, if_neg c2]
          by_cases d1 : x3 ≤ 40
          · rw [if_pos d1, if_pos d1]
            by_cases d2 : 0 ≤ x3
            · rw [if_pos d2, if_pos d2]
              simp only [hin, hcl, q_gt, q_lt, q_vz.2]
              obtain ⟨k, hk, rfl⟩ : ∃ k, k < 3 ∧ x2 = nI k := q_in_of (by omega) ((q_in_iff (by omega)).mpr ⟨c2, b1⟩)
              obtain ⟨N, hN, rfl⟩ : ∃ N, N ≤ 40 ∧ x3 = nI N := nI_of2 (M := 40) (n := 40) (by decide) (by rw [Int32.not_lt]; exact d2) d1
              obtain ⟨g1, e1, s1, s2, s3, s4⟩ := q_lay hc (nI k) (nI N) g
              have e2 : ∃ y, nt_it (fun z => bMo_sheet_77 (nI c) (nI k) (nI N) z.1 z.2) nt_fu ((0 : Int32), nt_st (nt_st (nt_st r 21 c 1) 22 c (nI k)) 23 c (nI N)) = some y ∧ ((∀ j, y 24 j = if 40 * c ≤ j ∧ j < 40 * c + N then 0 else r 24 j) ∧ ∀ q, q ≠ 24 → y q = nt_st (nt_st (nt_st r 21 c 1) 22 c (nI k)) 23 c (nI N) q) := by
                refine q_loop (fun i st => ∃ r1, st = (nI i, r1) ∧ (∀ j, r1 24 j = if 40 * c ≤ j ∧ j < 40 * c + i then 0 else r 24 j) ∧ ∀ q, q ≠ 24 → r1 q = nt_st (nt_st (nt_st r 21 c 1) 22 c (nI k)) 23 c (nI N) q) _ N (by omega) ⟨_, rfl, fun j => by rw [st_slot _ _ (by omega), st_slot _ _ (by omega), st_slot _ _ (by omega), if_neg (by omega)], fun _ _ => rfl⟩ ?_ ?_
                · intro i st hi hI
                  obtain ⟨r1, rfl, t1, t2⟩ := hI
                  left
                  show ∃ s', bMo_sheet_77 (nI c) (nI k) (nI N) (nI i) r1 = some (.inl s') ∧ _
                  unfold bMo_sheet_77
                  rw [if_neg (nI_ge hi (by omega)), if_neg c2, (q_ix40 c i).2]
                  simp only [q_in (show 40 * c + i < 160 by omega) (show 160 < 2 ^ 31 by omega), q_gt, q_lt, nI_1, nI_clamp (show 40 * c + i < 2 ^ 31 by omega)]
                  refine ⟨_, rfl, _, rfl, fun j => ?_, fun q hq => by rw [st_row _ _ _ hq]; exact t2 q hq⟩
                  by_cases e : j = 40 * c + i
                  · subst e
                    rw [st_eq, if_pos (by omega)]
                  · rw [st_slot _ _ (Or.inr e), t1]
                    by_cases q : 40 * c ≤ j ∧ j < 40 * c + i
                    · rw [if_pos q, if_pos (by omega)]
                    · rw [if_neg q, if_neg (by omega)]
                · intro st hI
                  obtain ⟨r1, rfl, t1, t2⟩ := hI
                  refine ⟨r1, ?_, t1, t2⟩
                  show bMo_sheet_77 (nI c) (nI k) (nI N) (nI N) r1 = _
                  unfold bMo_sheet_77
                  rw [if_pos (nI_le (Nat.le_refl N) (by omega))]
              obtain ⟨r1, e2, t1, t2⟩ := e2
              rw [e1, q_b1, e2, q_b1]
              refine ⟨_, _, _, rfl, rfl, Rel_H h (fun d hd => ?_) s4 (fun k hk => by rw [t2 k (by omega), st_row _ _ _ (by omega), st_row _ _ _ (by omega), st_row _ _ _ (by omega)])⟩
              rw [s1, s2, t2 21 (by omega), t2 22 (by omega), t2 23 (by omega)]
              by_cases e : d = c
              · right
                subst e
                refine ⟨k, N, hk, hN, if_pos rfl, ?_, ?_, if_pos rfl, st_eq _ _ _ _, fun i hi => ?_⟩
                · rw [st_slot _ _ (by omega), st_slot _ _ (by omega), st_eq]
                · rw [st_slot _ _ (by omega), st_eq]
                · rw [s3, t1, if_pos (by omega), if_pos (by omega)]
              · rw [if_neg e, if_neg e, st_slot _ _ (show (21 : Nat) ≠ 23 ∨ d ≠ c by omega), st_slot _ _ (show (21 : Nat) ≠ 22 ∨ d ≠ c by omega), st_slot _ _ (show (21 : Nat) ≠ 21 ∨ d ≠ c by omega), st_slot _ _ (show (22 : Nat) ≠ 23 ∨ d ≠ c by omega), st_slot _ _ (show (22 : Nat) ≠ 22 ∨ d ≠ c by omega), st_slot _ _ (show (22 : Nat) ≠ 21 ∨ d ≠ c by omega), st_slot _ _ (show (23 : Nat) ≠ 23 ∨ d ≠ c by omega), st_slot _ _ (show (23 : Nat) ≠ 22 ∨ d ≠ c by omega), st_slot _ _ (show (23 : Nat) ≠ 21 ∨ d ≠ c by omega)]
                rcases hH d hd with f | ⟨k', N', f1, f2, f3, f4, f5, f6, f7, f8⟩
                · exact Or.inl f
                · refine Or.inr ⟨k', N', f1, f2, f3, f4, f5, f6, f7, fun i hi => ?_⟩
                  rw [s3, if_neg (by omega), t1, if_neg (by omega)]
                  exact f8 i hi
            · rw [if_neg d2, if_neg d2]
              exact ⟨_, _, _, rfl, rfl, h⟩
          · rw [if_neg d1, if_neg d1]
            exact ⟨_, _, _, rfl, rfl, h⟩
      · have b2 : 0 < (lg_cmp (Int32.toInt64 x2) (2 : Int64)) := by
          rw [lg_cmp_gt, Int64.lt_iff_toInt_lt, Int32.toInt_toInt64, hL2]
          rw [Int32.lt_iff_toInt_lt, h3] at b1
          omega
        rw [if_neg b1, if_pos b2, q_b1, if_pos rfl]
        exact ⟨_, _, _, rfl, rfl, h⟩
theorem st_cell {nr : Nat} {ln : Nat → Nat} {g r : nt_T} (h : nt_Rel nr ln g r) (x1 x2 x3 : Int32) : ∃ (v : Int32) (ga : nt_T) (gb : nt_T), fNt_cell x1 x2 x3 g = some (v, ga) ∧ fMo_cell x1 x2 x3 r = some (v, gb) ∧ nt_Rel nr ln ga gb := by
  have hH : nt_qH g r := by
    obtain ⟨m, n, hn, hQ, hO⟩ := h
    exact hO.2.2
  unfold fNt_cell fMo_cell
  rw [(q_sh x1 g r).1, (q_sh x1 g r).2, q_b1, q_b1]
  cases h1 : nt_in x1 4
  · exact ⟨_, _, _, if_pos rfl, if_pos rfl, h⟩
  · rw [if_neg (show ¬ bI true = 0 by decide), if_neg (show ¬ bI true = 0 by decide)]
    obtain ⟨c, hc, rfl⟩ := q_in_of (by omega) h1
    have hin := q_in hc (show 4 < 2 ^ 31 by omega)
    have hcl := nI_clamp (show c < 2 ^ 31 by omega)
    rw [q_miss hc, q_b1]
    simp only [hin, hcl, q_gt]
    rcases hH c hc with ⟨f1, f2⟩ | ⟨k, N, f1, f2, f3, f4, f5, f6, f7, f8⟩
    · rw [decide_eq_true f1, if_neg (show ¬ bI true = 0 by decide), if_pos f2]
      exact ⟨_, _, _, rfl, rfl, h⟩
    · rw [decide_eq_false (by rw [f3]; exact nI_m1 (by omega)), if_pos (show bI false = 0 from rfl), if_neg (by rw [f4]; decide)]
      unfold fSs_reaches
      rw [hin, q_gt, hcl, q_below (n := N) (by omega) f6, q_b1, q_gd (q_nb _), q_b1, q_moin (n := N) (by omega) (by rw [f7]; exact q_pred N (by omega)), q_b1]
      cases h2 : nt_in x2 N
      · exact ⟨_, _, _, if_pos rfl, if_pos rfl, h⟩
      · rw [if_neg (show ¬ bI true = 0 by decide), if_neg (show ¬ bI true = 0 by decide)]
        obtain ⟨i, hi, rfl⟩ := q_in_of (by omega) h2
        have fin : ∀ w : Int32, nt_Rel nr ln (nt_st g 46 (40 * c + i) w) (nt_st r 24 (40 * c + i) w) := by
          intro w
          refine Rel_H h (fun d hd => ?_) (fun k hk => st_row _ _ _ (by omega)) (fun k hk => st_row _ _ _ (by omega))
          rw [st_slot _ _ (show (44 : Nat) ≠ 46 ∨ _ by omega), st_slot _ _ (show (21 : Nat) ≠ 24 ∨ _ by omega), st_slot _ _ (show (22 : Nat) ≠ 24 ∨ _ by omega), st_slot _ _ (show (45 : Nat) ≠ 46 ∨ _ by omega), st_slot _ _ (show (23 : Nat) ≠ 24 ∨ _ by omega)]
          rcases hH d hd with f | ⟨k', N', t1, t2, t3, t4, t5, t6, t7, t8⟩
          · exact Or.inl f
          · refine Or.inr ⟨k', N', t1, t2, t3, t4, t5, t6, t7, fun q hq => ?_⟩
            by_cases e : 40 * d + q = 40 * c + i
            · rw [e, st_eq, st_eq]
            · rw [st_slot _ _ (Or.inr e), st_slot _ _ (Or.inr e)]
              exact t8 q hq
        have hin2 := q_in (show 40 * c + i < 160 by omega) (show 160 < 2 ^ 31 by omega)
        have hcl2 := nI_clamp (show 40 * c + i < 2 ^ 31 by omega)
        unfold fSs_write jSs_write_30 jMo_cell_83
        rw [(q_ix40 c i).1, (q_ix40 c i).2]
        simp only [hin, hcl, hin2, hcl2, q_gt, q_lt, f3, f5]
        rcases (show k = 0 ∨ k = 1 ∨ k = 2 by omega) with rfl | rfl | rfl
        · rw [if_pos (show nI 0 = (0 : Int32) from rfl), if_pos (show nI 0 = (0 : Int32) from rfl), q_b1]
          exact ⟨_, _, _, rfl, rfl, fin _⟩
        · rw [if_neg (show ¬ nI 1 = (0 : Int32) by decide), if_neg (show ¬ nI 1 = (0 : Int32) by decide), if_pos (show nI 1 = (1 : Int32) from rfl), if_pos (show nI 1 = (1 : Int32) from rfl), q_b1]
          exact ⟨_, _, _, rfl, rfl, fin _⟩
        · rw [if_neg (show ¬ nI 2 = (0 : Int32) by decide), if_neg (show ¬ nI 2 = (0 : Int32) by decide), if_neg (show ¬ nI 2 = (1 : Int32) by decide), if_neg (show ¬ nI 2 = (1 : Int32) by decide), q_b1]
          exact ⟨_, _, _, rfl, rfl, fin _⟩
