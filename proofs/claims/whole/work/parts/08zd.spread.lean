/-! ===== spread ===== -/
theorem q_hwM {n m nr h c : Nat} {ln : Nat → Nat} {g r ri : nt_T} (hn : n ≤ 8) (h0 : 0 < h) (h4 : h ≤ 4) (hc : c < 2 ^ 30) (hQ : nt_Q 14 n m nr ln g r) (hI : nt_mI r n m ri) : ∃ r', fMo_housesWith (nI c) (nI h) ri = some (nI (SPS r n m h c), r') ∧ nt_mI r n m r' := by
  unfold fMo_housesWith
  have H : ∃ y, nt_it (fun z => bMo_housesWith_5 (nI c) (nI h) z.1 z.2.1 z.2.2) nt_fu ((0 : Int32), (0 : Int32), ri) = some y ∧ (y.1 = nI (SPS r n m h c) ∧ nt_mI r n m y.2) := by
    refine q_loop (fun e st => ∃ re, st = (nI (cntB (SPH r n m (dg h c)) e), nI e, re) ∧ nt_mI r n m re) _ h (by omega) ⟨ri, rfl, hI⟩ ?_ ?_
    · intro e st he hJ
      obtain ⟨re, rfl, hIe⟩ := hJ
      left
      show ∃ s', bMo_housesWith_5 (nI c) (nI h) (nI (cntB (SPH r n m (dg h c)) e)) (nI e) re = some (.inl s') ∧ _
      unfold bMo_housesWith_5
      have hQe := S_Q (sC_rf g) hIe.1 hQ
      rw [if_neg (nI_ge he (by omega))]
      obtain ⟨w, e1, hw⟩ := q_who hn h0 h4 hc he hQe.2.2.2.2.1 (nI (cntB (SPH r n m (dg h c)) e))
      obtain ⟨r2, e2, hI2⟩ := q_any hn hQ hIe hw
      rw [e1, q_b1, e2, q_b2]
      have ec : cntB (SPH r n m (dg h c)) (e + 1) = cntB (SPH r n m (dg h c)) e + (if SPH r n m (dg h c) e then 1 else 0) := rfl
      cases hS : SPH r n m (dg h c) e
      · rw [hS] at ec
        rw [if_pos (show bI false = 0 from rfl), q_lt, q_lt, nI_1, Int32.add_zero]
        exact ⟨_, rfl, r2, by rw [ec]; rfl, hI2⟩
      · rw [hS] at ec
        rw [if_neg (show ¬ bI true = 0 by decide), q_lt, q_lt, nI_1, nI_1]
        exact ⟨_, rfl, r2, by rw [ec]; rfl, hI2⟩
    · intro st hJ
      obtain ⟨re, rfl, hIe⟩ := hJ
      refine ⟨(nI (cntB (SPH r n m (dg h c)) h), re), ?_, rfl, hIe⟩
      show bMo_housesWith_5 (nI c) (nI h) (nI (cntB (SPH r n m (dg h c)) h)) (nI h) re = _
      unfold bMo_housesWith_5
      rw [if_pos (nI_le (Nat.le_refl h) (by omega))]
  obtain ⟨⟨v, r'⟩, e, ev, hI'⟩ := H
  have ev : v = nI (SPS r n m h c) := ev
  subst ev
  rw [e, q_b1]
  exact ⟨r', rfl, hI'⟩
theorem q_memo {n m nr : Nat} {ln : Nat → Nat} {g r : nt_T} (hn : n ≤ 8) (hQ : nt_Q 14 n m nr ln g r) (x1 x2 x3 y1 y2 y3 : Int32) : ∃ ra rb, nt_it (fun z => bMo_spread_72 x1 x2 x3 z.1 z.2) nt_fu ((0 : Int32), r) = some ra ∧ nt_it (fun z => bMo_spread_103 y1 y2 y3 z.1 z.2) nt_fu ((0 : Int32), ra) = some rb ∧ nt_mI r n m rb := by
  have hm8 := hQ.1.1
  have H : ∃ ra, nt_it (fun z => bMo_spread_72 x1 x2 x3 z.1 z.2) nt_fu ((0 : Int32), r) = some ra ∧ (nt_sM r ra ∧ ∀ s, s < m → isB (ra 16 s) (fun p => bt (kn r m p) s) n) := by
    refine q_loop (fun s st => ∃ rs, st = (nI s, rs) ∧ nt_sM r rs ∧ ∀ t, t < s → isB (rs 16 t) (fun p => bt (kn r m p) t) n) _ m (by omega) ⟨r, rfl, sM_rf r, fun t ht => absurd ht (by omega)⟩ ?_ ?_
    · intro s st hs hJ
      obtain ⟨rs, rfl, hM, hk⟩ := hJ
      left
      show ∃ s', bMo_spread_72 x1 x2 x3 (nI s) rs = some (.inl s') ∧ _
      unfold bMo_spread_72
      have hQs := S_Q (sC_rf g) hM hQ
      have h11 : rs 0 11 = nI m := hQs.1.2.2.1
      obtain ⟨v, e, hv⟩ := q_knowers hQs.1 (show n ≤ 9 by omega) hQs.2.2.2.2.1 (show s < 8 by omega)
      rw [h11, if_neg (nI_ge hs (by omega)), e, q_b1]
      simp only [q_in (show s < 8 by omega) (show 8 < 2 ^ 31 by omega), q_gt, q_lt, nI_1, nI_clamp (show s < 2 ^ 31 by omega)]
      refine ⟨_, rfl, _, rfl, fun k j a b c => by rw [st_slot _ _ (Or.inl a)]; exact hM k j a b c, fun t ht => ?_⟩
      by_cases c : t = s
      · subst c
        rw [st_eq]
        have ek : kn rs m = kn r m := funext (fun p => by unfold kn; rw [sM_row hM (k := 7) (by omega), sM_row hM (k := 10) (by omega)])
        rw [ek] at hv
        exact hv
      · rw [st_slot _ _ (Or.inr c)]
        exact hk t (by omega)
    · intro st hJ
      obtain ⟨rs, rfl, hM, hk⟩ := hJ
      refine ⟨rs, ?_, hM, hk⟩
      show bMo_spread_72 x1 x2 x3 (nI m) rs = _
      unfold bMo_spread_72
      have hQs := S_Q (sC_rf g) hM hQ
      have h11 : rs 0 11 = nI m := hQs.1.2.2.1
      rw [h11, if_pos (nI_le (Nat.le_refl m) (by omega))]
  obtain ⟨ra, e1, hM, hk⟩ := H
  have K : ∃ rb, nt_it (fun z => bMo_spread_103 y1 y2 y3 z.1 z.2) nt_fu ((0 : Int32), ra) = some rb ∧ ((∀ k, k ≠ 17 → rb k = ra k) ∧ ∀ j, j < 576 → rb 17 j = 0) := by
    refine q_loop (fun s st => ∃ rs, st = (nI s, rs) ∧ (∀ k, k ≠ 17 → rs k = ra k) ∧ ∀ j, j < s → rs 17 j = 0) _ 576 (by omega) ⟨ra, rfl, fun _ _ => rfl, fun j hj => absurd hj (by omega)⟩ ?_ ?_
    · intro s st hs hJ
      obtain ⟨rs, rfl, hM, hk⟩ := hJ
      left
      show ∃ s', bMo_spread_103 y1 y2 y3 (nI s) rs = some (.inl s') ∧ _
      unfold bMo_spread_103
      have c1 : ¬ (576 : Int32) ≤ nI s := nI_ge (b := 576) hs (by omega)
      rw [if_neg c1]
      simp only [q_in hs (show 576 < 2 ^ 31 by omega), q_gt, q_lt, nI_1, nI_clamp (show s < 2 ^ 31 by omega)]
      refine ⟨_, rfl, _, rfl, fun k a => by rw [st_row _ _ _ a]; exact hM k a, fun t ht => ?_⟩
      by_cases c : t = s
      · subst c
        rw [st_eq]
      · rw [st_slot _ _ (Or.inr c)]
        exact hk t (by omega)
    · intro st hJ
      obtain ⟨rs, rfl, hM, hk⟩ := hJ
      refine ⟨rs, ?_, hM, hk⟩
      show bMo_spread_103 y1 y2 y3 (nI 576) rs = _
      unfold bMo_spread_103
      rw [if_pos (show (576 : Int32) ≤ nI 576 by decide)]
  obtain ⟨rb, e2, hf, hz⟩ := K
  refine ⟨ra, rb, e1, e2, fun k j a b c => by rw [hf k b]; exact hM k j a b c, fun s hs => by rw [hf 16 (by omega)]; exact hk s hs, fun p hp s hs c hc => Or.inl (hz _ (by unfold tix; omega))⟩
theorem q_in14 (x : Int32) (r : nt_T) : fMo_in (Int32.toInt64 x) (1 : Int64) (4 : Int64) r = some (bI (decide (¬ x < 1 ∧ ¬ 4 < x))) := by
  have h1 : (1 : Int32).toInt = 1 := by decide
  have h4 : (4 : Int32).toInt = 4 := by decide
  have hL1 : (1 : Int64).toInt = 1 := by decide
  have hL4 : (4 : Int64).toInt = 4 := by decide
  unfold fMo_in
  by_cases a : x < 1
  · have a2 : (lg_cmp (Int32.toInt64 x) (1 : Int64)) < 0 := by
      rw [lg_cmp_lt, Int64.lt_iff_toInt_lt, Int32.toInt_toInt64, hL1]
      rw [Int32.lt_iff_toInt_lt, h1] at a
      exact a
    rw [if_pos a2, decide_eq_false (fun q => q.1 a)]
    rfl
  · have a2 : ¬ (lg_cmp (Int32.toInt64 x) (1 : Int64)) < 0 := by
      rw [lg_cmp_lt, Int64.lt_iff_toInt_lt, Int32.toInt_toInt64, hL1]
      rw [Int32.lt_iff_toInt_lt, h1] at a
      exact a
    rw [if_neg a2]
    by_cases b : 4 < x
    · have b2 : 0 < (lg_cmp (Int32.toInt64 x) (4 : Int64)) := by
        rw [lg_cmp_gt, Int64.lt_iff_toInt_lt, Int32.toInt_toInt64, hL4]
        rw [Int32.lt_iff_toInt_lt, h4] at b
        omega
      rw [if_pos b2, decide_eq_false (fun q => q.2 b)]
      rfl
    · have b2 : ¬ 0 < (lg_cmp (Int32.toInt64 x) (4 : Int64)) := by
        rw [lg_cmp_gt, Int64.lt_iff_toInt_lt, Int32.toInt_toInt64, hL4]
        rw [Int32.lt_iff_toInt_lt, h4] at b
        omega
      rw [if_neg b2, decide_eq_true ⟨a, b⟩]
      rfl
theorem q_spreadJ {nr : Nat} {ln : Nat → Nat} {g r : nt_T} {m n h : Nat} (hn : n ≤ 8) (hQ : nt_Q 14 n m nr ln g r) (hO : nt_O n nr g r) (h0 : 0 < h) (h4 : h ≤ 4) {x2 : Int32} (hx : x2 = -1 ∨ ∃ p, p < n ∧ x2 = nI p) : ∃ (v : Int32) (ga : nt_T) (gb : nt_T), jNt_spread_29 nr ln (nI h) x2 g = some (v, ga) ∧ jMo_spread_28 (nI h) x2 r = some (v, gb) ∧ nt_Rel nr ln ga gb := by
  have hp8 := q_pow8 h4 hn
  have hW1 : 0 < h ^ n := Nat.pow_pos h0
  unfold jNt_spread_29 jMo_spread_28 jMo_spread_59
  obtain ⟨v, e1, hv⟩ := q_waysM hn h0 h4 hQ.2.2.2.2.1 x2
  rw [q_ways hn hQ.2.2.2.1, q_b1, e1, q_b1]
  rcases hv with ⟨hW, rfl⟩ | ⟨hW, hv⟩
  · have c : nI (h ^ n) ≤ (4096 : Int32) := (nI_leI (a := h ^ n) (b := 4096) (by omega) (by omega)).mpr hW
    rw [if_pos c, if_pos c]
    obtain ⟨g', e2, hs, hb, hd⟩ := q_search hn h0 h4 hW hQ
    rw [e2, q_b1]
    obtain ⟨ra, rb, e3, e4, hI⟩ := q_memo hn hQ (nI h) x2 (nI (h ^ n)) (nI h) x2 (nI (h ^ n))
    rw [e3, q_b1, e4, q_b1]
    obtain ⟨rc, e5, hIc⟩ := q_hwM hn h0 h4 (c := 0) (by omega) hQ hI
    have e5 : fMo_housesWith (0 : Int32) (nI h) rb = some (nI (SPS r n m h 0), rc) := e5
    rw [e5, q_b2]
    have hS4 : ∀ j, SPS r n m h j ≤ 4 := fun j => Nat.le_trans (cntB_le _ _) h4
    have hb4 : ∀ j, (BW (SPS r n m h) j).2 ≤ 4 := fun j => BW_bd hS4 j
    have H : ∃ y, nt_it (fun z => bMo_spread_139 (nI h) x2 (nI (h ^ n)) z.1 z.2.1 z.2.2.1 z.2.2.2) nt_fu ((0 : Int32), nI (SPS r n m h 0), (1 : Int32), rc) = some y ∧ (y.1 = nI (BW (SPS r n m h) (h ^ n - 1)).1 ∧ y.2.1 = nI (BW (SPS r n m h) (h ^ n - 1)).2 ∧ nt_mI r n m y.2.2) := by
      refine q_loop (fun k st => ∃ rk, st = (nI (BW (SPS r n m h) k).1, nI (BW (SPS r n m h) k).2, nI (k + 1), rk) ∧ nt_mI r n m rk) _ (h ^ n - 1) (by omega) ⟨rc, rfl, hIc⟩ ?_ ?_
      · intro k st hk hJ
        obtain ⟨rk, rfl, hIk⟩ := hJ
        left
        show ∃ s', bMo_spread_139 (nI h) x2 (nI (h ^ n)) (nI (BW (SPS r n m h) k).1) (nI (BW (SPS r n m h) k).2) (nI (k + 1)) rk = some (.inl s') ∧ _
        unfold bMo_spread_139
        rw [if_neg (nI_ge (by omega) (by omega))]
        obtain ⟨r2, e6, hI2⟩ := q_hwM hn h0 h4 (c := k + 1) (by omega) hQ hIk
        rw [e6, q_b2]
        have w1 := hb4 k
        have w2 := hS4 (k + 1)
        by_cases c2 : SPS r n m h (k + 1) ≤ (BW (SPS r n m h) k).2
        · rw [if_pos (nI_le c2 (by omega)), q_lt, nI_1]
          exact ⟨_, rfl, r2, by rw [BW, if_pos c2], hI2⟩
        · rw [if_neg (fun q => c2 ((nI_leI (by omega) (by omega)).mp q)), q_lt, nI_1]
          exact ⟨_, rfl, r2, by rw [BW, if_neg c2], hI2⟩
      · intro st hJ
        obtain ⟨rk, rfl, hIk⟩ := hJ
        refine ⟨(nI (BW (SPS r n m h) (h ^ n - 1)).1, nI (BW (SPS r n m h) (h ^ n - 1)).2, rk), ?_, rfl, rfl, hIk⟩
        show bMo_spread_139 (nI h) x2 (nI (h ^ n)) (nI (BW (SPS r n m h) (h ^ n - 1)).1) (nI (BW (SPS r n m h) (h ^ n - 1)).2) (nI (h ^ n - 1 + 1)) rk = _
        unfold bMo_spread_139
        rw [if_pos (nI_le (by omega) (by omega))]
    obtain ⟨⟨y1, y2, y3⟩, e7, ey1, ey2, hI3⟩ := H
    have ey1 : y1 = nI (BW (SPS r n m h) (h ^ n - 1)).1 := ey1
    have ey2 : y2 = nI (BW (SPS r n m h) (h ^ n - 1)).2 := ey2
    have hI3 : nt_mI r n m y3 := hI3
    subst ey1 ey2
    rw [e7, q_b1]
    dsimp only
    have fin : nt_Rel nr ln g' y3 := ⟨m, n, hn, S_Q hs hI3.1 hQ, S_O hs hI3.1 hO⟩
    rcases hx with rfl | ⟨p, hp, rfl⟩
    · rw [if_pos rfl, if_pos rfl, hb]
      exact ⟨_, _, _, rfl, rfl, fin⟩
    · have hz : ¬ nI p = -1 := nI_m1 (by omega)
      have hbl := BW_le (SPS r n m h) (h ^ n - 1)
      rw [if_neg hz, if_neg hz, q_gd (q_in (show p < 8 by omega) (by omega)), nI_clamp (show p < 2 ^ 31 by omega), hd p hp, q_digit h0 h4 (by omega) (by omega), q_b1]
      exact ⟨_, _, _, rfl, rfl, fin⟩
  · have c : ¬ nI (h ^ n) ≤ (4096 : Int32) := fun q => hW ((nI_leI (a := h ^ n) (b := 4096) (by omega) (by omega)).mp q)
    rw [if_neg c, if_neg hv]
    exact ⟨_, _, _, rfl, rfl, m, n, hn, hQ, hO⟩
theorem st_spread {nr : Nat} {ln : Nat → Nat} {g r : nt_T} (h : nt_Rel nr ln g r) (x1 x2 : Int32) : ∃ (v : Int32) (ga : nt_T) (gb : nt_T), fNt_spread nr ln x1 x2 g = some (v, ga) ∧ fMo_spread x1 x2 r = some (v, gb) ∧ nt_Rel nr ln ga gb := by
  obtain ⟨m, n, hn, hQ, hO⟩ := id h
  unfold fNt_spread fMo_spread
  rw [q_in14, q_b1]
  by_cases a : x1 < 1
  · rw [if_pos a, decide_eq_false (fun q => q.1 a), if_pos (show bI false = 0 from rfl)]
    exact ⟨_, _, _, rfl, rfl, h⟩
  by_cases b : 4 < x1
  · rw [if_neg a, if_pos b, decide_eq_false (fun q => q.2 b), if_pos (show bI false = 0 from rfl)]
    exact ⟨_, _, _, rfl, rfl, h⟩
  rw [if_neg a, if_neg b, decide_eq_true ⟨a, b⟩, if_neg (show ¬ bI true = 0 by decide)]
  have hx0 : ¬ x1 < 0 := by
    rw [Int32.lt_iff_toInt_lt] at a ⊢
    have h1 : (1 : Int32).toInt = 1 := by decide
    have h0 : (0 : Int32).toInt = 0 := by decide
    omega
  obtain ⟨k, hk, rfl⟩ := nI_of hx0
  have h0 : 0 < k := by
    have : ¬ k < 1 := fun q => a ((nI_ltI (a := k) (b := 1) hk (by omega)).mpr q)
    omega
  have h4 : k ≤ 4 := by
    have : ¬ 4 < k := fun q => b ((nI_ltI (a := 4) (b := k) (by omega) hk).mpr q)
    omega
  by_cases c : x2 = -1
  · rw [if_pos c, if_pos c]
    exact q_spreadJ hn hQ hO h0 h4 (Or.inl c)
  · rw [if_neg c, if_neg c, (q_has hQ.2.2 x2).1, (q_has hQ.2.2 x2).2, q_b1, q_b1]
    cases h2 : nt_in x2 n
    · exact ⟨_, _, _, if_pos rfl, if_pos rfl, h⟩
    · rw [if_neg (show ¬ bI true = 0 by decide), if_neg (show ¬ bI true = 0 by decide)]
      exact q_spreadJ hn hQ hO h0 h4 (Or.inr (q_in_of (by omega) h2))
