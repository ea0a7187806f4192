/-! ===== text() ===== -/
theorem q_copyT {K nr : Nat} {r : nt_T} (hK : K ≤ 160) (hn : nr < 6) (h6 : r 0 6 = nI K) (h3 : r 0 3 = nI nr) : ∃ r', nt_it (fun z => bMo_text_14 z.1 z.2) nt_fu ((0 : Int32), r) = some r' ∧ (∀ c j, ¬ (c = 1 ∧ 160 * nr ≤ j) → r' c j = r c j) ∧ ∀ j, j < K → r' 1 (160 * nr + j) = r 3 j := by
  refine q_loop (body := fun z : Int32 × nt_T => bMo_text_14 z.1 z.2) (s := ((0 : Int32), r)) (fun k s => s.1 = nI k ∧ (∀ c j, ¬ (c = 1 ∧ 160 * nr ≤ j) → s.2 c j = r c j) ∧ ∀ j, j < k → s.2 1 (160 * nr + j) = r 3 j) (fun r' => (∀ c j, ¬ (c = 1 ∧ 160 * nr ≤ j) → r' c j = r c j) ∧ ∀ j, j < K → r' 1 (160 * nr + j) = r 3 j) K (by omega) ⟨rfl, fun _ _ _ => rfl, fun j hj => absurd hj (Nat.not_lt_zero j)⟩ ?_ ?_
  · rintro k ⟨s1, s2⟩ hk ⟨i1, i2, i3⟩
    dsimp only at i1 i2 i3 ⊢
    have e6 : s2 0 6 = nI K := by rw [i2 0 6 (by omega)]; exact h6
    have e3 : s2 0 3 = nI nr := by rw [i2 0 3 (by omega)]; exact h3
    refine Or.inl ⟨(nI (k + 1), nt_st s2 1 (160 * nr + k) (s2 3 k)), ?_, rfl, fun c j h => ?_, fun j hj => ?_⟩
    · unfold bMo_text_14
      rw [i1, e6, if_neg (nI_ge hk (by omega)), q_gd (q_in (by omega) (by omega)), e3, pc_160 nr hn, show nI (160 * nr) + nI k = nI (160 * nr + k) from nI_add _ _, q_gd (q_in (by omega) (by omega)), nI_clamp (by omega), nI_clamp (by omega), q_lt, q_lt, show nI k + (1 : Int32) = nI (k + 1) from nI_add k 1]
    · show nt_st s2 1 (160 * nr + k) (s2 3 k) c j = r c j
      rw [st_slot _ _ (by omega)]
      exact i2 c j h
    · show nt_st s2 1 (160 * nr + k) (s2 3 k) 1 (160 * nr + j) = r 3 j
      by_cases c : j = k
      · rw [c, st_eq, i2 3 k (by omega)]
      · rw [st_slot _ _ (by omega)]
        exact i3 j (by omega)
  · rintro ⟨s1, s2⟩ ⟨i1, i2, i3⟩
    dsimp only at i1 i2 i3 ⊢
    have e6 : s2 0 6 = nI K := by rw [i2 0 6 (by omega)]; exact h6
    refine ⟨s2, ?_, i2, i3⟩
    unfold bMo_text_14
    rw [i1, e6, if_pos (nI_le (Nat.le_refl _) (by omega))]
theorem TX_F {t L : Nat} {A C T S T' S' : Nat → Int32} (hT : ∀ j, j < 160 → T' (160 * t + j) = T (160 * t + j)) (hS : S' t = S t) (h : nt_TX t L A C T S) : nt_TX t L A C T' S' := by
  obtain ⟨hL, N, gg, gg', hN, h1, h2, hb, h3⟩ := h
  refine ⟨hL, N, gg, gg', hN, by rw [hS]; exact h1, h2, fun j hj => ?_, h3⟩
  rw [hT j (by omega)]
  exact hb j hj
theorem Rel_text {nr nr' : Nat} {ln ln' : Nat → Nat} {g r g' r' : nt_T} (hn : nr ≤ nr') (hg : ∀ k, k < 47 → k ≠ 6 → k ≠ 10 → k ≠ 12 → k ≠ 13 → g' k = g k) (hr : ∀ k, 3 ≤ k → r' k = r k) (h0 : ∀ j, j ≠ 3 → j ≠ 6 → ¬ (25 ≤ j ∧ j ≤ 33) → j ≠ 130 → j ≠ 230 → r' 0 j = r 0 j) (hR : nt_qR g' r') (hT : nt_qT nr' ln' g' r') (h : nt_Rel nr ln g r) : nt_Rel nr' ln' g' r' := by
  obtain ⟨m, n, hn8, ⟨hS, _, hP⟩, _, hI, hH⟩ := h
  refine ⟨m, n, hn8, ⟨?_, hT, ?_⟩, hR, ?_, ?_⟩
  · unfold nt_qS at hS ⊢
    rw [hg 1 (by omega) (by omega) (by omega) (by omega) (by omega), hg 2 (by omega) (by omega) (by omega) (by omega) (by omega), hg 3 (by omega) (by omega) (by omega) (by omega) (by omega), hg 4 (by omega) (by omega) (by omega) (by omega) (by omega), hg 5 (by omega) (by omega) (by omega) (by omega) (by omega), h0 11 (by omega) (by omega) (by omega) (by omega) (by omega), hr 4 (by omega), hr 5 (by omega), hr 6 (by omega), hr 7 (by omega)]
    exact hS
  · unfold nt_qP nt_q1 at hP ⊢
    rw [hg 14 (by omega) (by omega) (by omega) (by omega) (by omega), hg (14 + 1) (by omega) (by omega) (by omega) (by omega) (by omega), hg (14 + 2) (by omega) (by omega) (by omega) (by omega) (by omega), hg (14 + 3) (by omega) (by omega) (by omega) (by omega) (by omega), hg (14 + 4) (by omega) (by omega) (by omega) (by omega) (by omega), hg (14 + 5) (by omega) (by omega) (by omega) (by omega) (by omega), h0 17 (by omega) (by omega) (by omega) (by omega) (by omega), h0 18 (by omega) (by omega) (by omega) (by omega) (by omega), h0 4 (by omega) (by omega) (by omega) (by omega) (by omega), hr 8 (by omega), hr 9 (by omega), hr 10 (by omega), hr 11 (by omega), hr 12 (by omega)]
    exact hP
  · unfold nt_qI at hI ⊢
    rw [hg 0 (by omega) (by omega) (by omega) (by omega) (by omega), hg 28 (by omega) (by omega) (by omega) (by omega) (by omega), hg 29 (by omega) (by omega) (by omega) (by omega) (by omega), hg 32 (by omega) (by omega) (by omega) (by omega) (by omega), hg 33 (by omega) (by omega) (by omega) (by omega) (by omega), h0 44 (by omega) (by omega) (by omega) (by omega) (by omega), h0 45 (by omega) (by omega) (by omega) (by omega) (by omega), h0 46 (by omega) (by omega) (by omega) (by omega) (by omega), hr 18 (by omega), hr 19 (by omega), hr 20 (by omega)]
    rcases hI with hI | ⟨i1, n0, i2, i3, i4, i5, i6, i7, ⟨t, i8, i9⟩, i10⟩
    · exact Or.inl hI
    · exact Or.inr ⟨i1, n0, i2, i3, i4, i5, i6, i7, ⟨t, by omega, i9⟩, i10⟩
  · unfold nt_qH at hH ⊢
    rw [hg 44 (by omega) (by omega) (by omega) (by omega) (by omega), hg 45 (by omega) (by omega) (by omega) (by omega) (by omega), hg 46 (by omega) (by omega) (by omega) (by omega) (by omega), hr 21 (by omega), hr 22 (by omega), hr 23 (by omega), hr 24 (by omega)]
    exact hH
/-- text(): the class's world stays as it was (full, a FAULT), or has one text more -/
theorem st_text {nr : Nat} {ln : Nat → Nat} {g r : nt_T} (h : nt_Rel nr ln g r) : (∃ (v : Int32) (ga gb : nt_T), fNt_text g = some (v, ga) ∧ fMo_text r = some (v, gb) ∧ nt_Rel nr ln ga gb) ∨ (∃ _v : Unit, ∀ w : nt_w, nt_isR w nr ln → ∃ (ga gb rb : nt_T), fTx_isFull g = some 0 ∧ fRd_reads g = some (1, ga) ∧ ¬ ga 10 7 < 0 ∧ (ga 10 7).toNatClampNeg ≤ 160 ∧ fTx_isFull (nt_pg w ga (ga 13 (Int32.toNatClampNeg 1)) (ga 13 (Int32.toNatClampNeg 2)) (va_cpy (ga 12) (fun _ => 0) (Int32.toNatClampNeg 0) (Int32.toNatClampNeg 0) (ga 10 7).toNatClampNeg)) = some 0 ∧ nt_in (ga 6 3) 6 = true ∧ (ga 6 3).toNatClampNeg = nr ∧ fRd_empty (nt_st (nt_pg w ga (ga 13 (Int32.toNatClampNeg 1)) (ga 13 (Int32.toNatClampNeg 2)) (va_cpy (ga 12) (fun _ => 0) (Int32.toNatClampNeg 0) (Int32.toNatClampNeg 0) (ga 10 7).toNatClampNeg)) 6 3 (ga 6 3 + 1)) = some gb ∧ fMo_text r = some (ga 6 3 + 1 - 1, rb) ∧ nt_Rel (nr + 1) (fun i => if i = nr then (ga 10 7).toNatClampNeg else ln i) gb rb) := by
  obtain ⟨m, n, hn8, hQ, hR, hI, hH⟩ := id h
  obtain ⟨K, hK, k1, k2, k3⟩ := hR
  obtain ⟨a1, a2, a3, a4, a5, a6⟩ := id hQ.2.1
  by_cases c6 : nr = 6
  · subst c6
    refine Or.inl ⟨-4, g, r, ?_, ?_, h⟩
    · unfold fNt_text fTx_isFull
      rw [a3, if_neg (show ¬ nI 6 < (6 : Int32) by decide), q_b1, if_neg (show ¬ (1 : Int32) = 0 by decide)]
    · unfold fMo_text
      rw [a4, if_pos (show nI 6 = (6 : Int32) from rfl)]
  · have hlt : nr < 6 := by omega
    have full : ∀ x : nt_T, x 6 3 = nI nr → fTx_isFull x = some 0 := fun x hx => by
      unfold fTx_isFull
      rw [hx, if_pos (show nI nr < (6 : Int32) from nI_lt (b := 6) hlt (by omega))]
    obtain ⟨r7, e7, c1, c2⟩ := q_copyT hK hlt k2 a4
    obtain ⟨R, hR⟩ : ∃ R, R = nt_st (nt_st r7 2 nr (nI K)) 0 6 0 := ⟨_, rfl⟩
    have R1 : R 1 = r7 1 := by rw [hR, st_row _ _ _ (by omega), st_row _ _ _ (by omega)]
    have R2 : R 2 nr = nI K := by rw [hR, st_slot _ _ (by omega), st_eq]
    have R3 : R 0 3 = nI nr := by rw [hR, st_slot _ _ (by omega), st_slot _ _ (by omega), c1 0 3 (by omega)]; exact a4
    obtain ⟨b, g', v, r', f1, f2, f3, f4, f5⟩ := reads_both (N := K) (t := nr) (nm := fun j => R 0 (19 + j)) (g := g) (r := R) 0 hK hlt k1 R2 (fun j hj => by
      rw [R1, c2 j hj]
      exact k3 j hj) (fun _ _ => rfl)
    have r3 : r' 0 3 = nI nr := by rw [f3 0 3 (by omega)]; exact R3
    have eM : fMo_text r = (if r' 0 32 = 0 then some (nI nr + 1 - 1, nt_st r' 0 3 (nI nr + 1)) else some (-100 - r' 0 33, r')) := by
      unfold fMo_text
      rw [a4, if_neg (show ¬ nI nr = (6 : Int32) from fun q => c6 ((nI_eq (a := nr) (b := 6) (by omega) (by omega)).mp q)), e7, q_b1, c1 0 3 (by omega), a4, q_gd (q_in hlt (by omega)), nI_clamp (by omega), c1 0 6 (by omega), k2, q_lt, q_lt, ← hR, R3, f2, q_b2, r3, q_lt, st_eq]
    have hr : ∀ k, 3 ≤ k → r' k = r k := fun k hk => by
      funext j
      rw [f3 k j (by omega), hR, st_slot _ _ (by omega), st_slot _ _ (by omega), c1 k j (by omega)]
    have h0 : ∀ j, j ≠ 6 → ¬ (25 ≤ j ∧ j ≤ 33) → j ≠ 130 → j ≠ 230 → r' 0 j = r 0 j := fun j q1 q2 q3 q4 => by
      rw [f3 0 j (by omega), hR, st_slot _ _ (by omega), st_slot _ _ (by omega), c1 0 j (by omega)]
    have h06 : r' 0 6 = 0 := by rw [f3 0 6 (by omega), hR, st_eq]
    have h1 : r' 1 = r7 1 := by
      funext j
      rw [f3 1 j (by omega), R1]
    have h2 : ∀ i, i ≠ nr → r' 2 i = r 2 i := fun i hi => by
      rw [f3 2 i (by omega), hR, st_slot _ _ (by omega), st_slot _ _ (by omega), c1 2 i (by omega)]
    have h2n : r' 2 nr = nI K := by rw [f3 2 nr (by omega)]; exact R2
    have hTX : ∀ i, i < nr → nt_TX i (ln i) (g (47 + 2 * i)) (g (48 + 2 * i)) (r' 1) (r' 2) := fun i hi => by
      refine TX_F (fun j hj => ?_) (h2 i (by omega)) (a6 i hi)
      rw [h1, c1 1 (160 * i + j) (by omega)]
    have gk : ∀ k, k ≠ 10 → k ≠ 12 → k ≠ 13 → g' k = g k := fun k q1 q2 q3 => by
      funext j
      exact f4 k j (by omega) q2 q3
    have g63 : g' 6 3 = nI nr := by rw [gk 6 (by omega) (by omega) (by omega)]; exact a3
    rcases f5 with ⟨rfl, z, n0, n1, n2, v0, v1, v2, l1, l2, _⟩ | ⟨rfl, z, ta, cs, l1, l2, l3, _⟩
    · refine Or.inr ⟨(), fun w hw => ?_⟩
      obtain ⟨cI, cR, w1, w2, w3, w4⟩ := hw
      have hL : (g' 10 7).toNatClampNeg = n0 + n1 + n2 := by rw [l2, nI_clamp (by omega)]
      obtain ⟨P, hP⟩ : ∃ P, P = nt_pg w g' (g' 13 (Int32.toNatClampNeg 1)) (g' 13 (Int32.toNatClampNeg 2)) (va_cpy (g' 12) (fun _ => 0) (Int32.toNatClampNeg 0) (Int32.toNatClampNeg 0) (g' 10 7).toNatClampNeg) := ⟨_, rfl⟩
      have Pk : ∀ k, k < 47 + 2 * nr → P k = g' k := fun k hk => by
        rw [hP]
        unfold nt_pg
        rw [w2, if_neg (by omega), if_neg (by omega)]
      have P47 : P (47 + 2 * nr) = fun j => if j = 1 then g' 13 1 else if j = 2 then g' 13 2 else 0 := by
        rw [hP]
        unfold nt_pg
        rw [w2, if_pos rfl]
        rfl
      have P48 : ∀ j, j < n0 + n1 + n2 → P (48 + 2 * nr) j = g' 12 j := fun j hj => by
        rw [hP]
        unfold nt_pg
        rw [w2, if_neg (by omega), if_pos (by omega), hL, show Int32.toNatClampNeg 0 = 0 by decide, q_cpy0, if_pos hj]
      refine ⟨g', nt_st (nt_st P 6 3 (g' 6 3 + 1)) 10 1 0, nt_st r' 0 3 (nI nr + 1), full g a3, f1, ?_, by rw [hL]; exact l1, by rw [← hP]; exact full P (by rw [Pk 6 (by omega)]; exact g63), by rw [g63]; exact q_in hlt (by omega), by rw [g63, nI_clamp (by omega)], by rw [← hP]; rfl, by rw [eM, if_pos z, g63], ?_⟩
      · rw [l2]; exact nI_pos (by omega)
      · have n1' : nI nr + (1 : Int32) = nI (nr + 1) := nI_add nr 1
        refine Rel_text (g := g) (r := r) (nr := nr) (ln := ln) (by omega) (fun k q1 q2 q3 q4 q5 => ?_) (fun k hk => ?_) (fun j q1 q2 q3 q4 q5 => ?_) ?_ ?_ h
        · rw [st_row _ _ _ q3, st_row _ _ _ q2, Pk k (by omega), gk k q3 q4 q5]
        · rw [st_row _ _ _ (by omega), hr k hk]
        · rw [st_slot _ _ (by omega), h0 j q2 q3 q4 q5]
        · exact ⟨0, by omega, st_eq _ _ _ _, by rw [st_slot _ _ (by omega)]; exact h06, fun i hi => absurd hi (Nat.not_lt_zero i)⟩
        · obtain ⟨t, ht, ht2⟩ := a5
          refine ⟨by omega, by omega, ?_, ?_, ⟨t, by omega, ?_⟩, fun i hi => ?_⟩
          · rw [st_slot _ _ (by omega), st_eq, g63, n1']
          · rw [st_eq, n1']
          · rw [st_slot _ _ (by omega), h0 4 (by omega) (by omega) (by omega) (by omega)]; exact ht2
          · rw [st_row _ _ _ (show 47 + 2 * i ≠ 10 by omega), st_row _ _ _ (show 47 + 2 * i ≠ 6 by omega), st_row _ _ _ (show 48 + 2 * i ≠ 10 by omega), st_row _ _ _ (show 48 + 2 * i ≠ 6 by omega), st_row _ _ _ (show 1 ≠ 0 by omega), st_row _ _ _ (show 2 ≠ 0 by omega)]
            by_cases ci : i = nr
            · subst ci
              dsimp only
              rw [if_pos rfl, hL]
              refine ⟨l1, K, g, g', hK, h2n, k1, fun j hj => ?_, f1, l2, ?_, ?_, P48⟩
              · rw [h1, c2 j hj]
                exact k3 j hj
              · rw [P47]; rfl
              · rw [P47]; rfl
            · dsimp only
              rw [if_neg ci, Pk _ (by omega), Pk _ (by omega), gk _ (by omega) (by omega) (by omega), gk _ (by omega) (by omega) (by omega)]
              exact hTX i (by omega)
    · refine Or.inl ⟨-100 - r' 0 33, nt_st g' 10 1 0, r', ?_, ?_, ?_⟩
      · unfold fNt_text jNt_text_50 fRd_place fRd_empty
        rw [full g a3, q_b1, if_pos rfl, f1, q_b2, if_pos (show bI false = 0 from rfl), q_b1, q_lt, q_b1, l2, l3]
      · rw [eM, if_neg (show ¬ r' 0 32 = 0 by rw [z]; decide)]
      · refine Rel_text (g := g) (r := r) (Nat.le_refl nr) (fun k q1 q2 q3 q4 q5 => ?_) hr (fun j q1 q2 q3 q4 q5 => h0 j q2 q3 q4 q5) ?_ ?_ h
        · rw [st_row _ _ _ q3, gk k q3 q4 q5]
        · exact ⟨0, by omega, st_eq _ _ _ _, h06, fun i hi => absurd hi (Nat.not_lt_zero i)⟩
        · refine ⟨a1, a2, ?_, r3, ?_, fun i hi => ?_⟩
          · rw [st_slot _ _ (by omega)]; exact g63
          · rw [h0 4 (by omega) (by omega) (by omega) (by omega)]; exact a5
          · rw [st_row _ _ _ (show 47 + 2 * i ≠ 10 by omega), st_row _ _ _ (show 48 + 2 * i ≠ 10 by omega), gk _ (by omega) (by omega) (by omega), gk _ (by omega) (by omega) (by omega)]
            exact hTX i hi
