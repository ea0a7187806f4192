/-! ===== spread: the class's search ===== -/
theorem q_next {n h c : Nat} {g : nt_T} (hn : n ≤ 8) (h0 : 0 < h) (h4 : h ≤ 4) (h7 : g 14 7 = nI n) (hd : nt_dg n (dg h c) g) : ∃ g', fSe_nextWay (nI h) g = some g' ∧ nt_dg n (dg h (c + 1)) g' ∧ ∀ k, k ≠ 36 → g' k = g k := by
  unfold fSe_nextWay
  have H : ∃ y, nt_it (fun z => bSe_nextWay_2 (nI h) z.1 z.2) nt_fu ((0 : Int32), g) = some y ∧ ∃ g', (y = .inl g' ∨ y = .inr g') ∧ nt_dg n (dg h (c + 1)) g' ∧ ∀ k, k ≠ 36 → g' k = g k := by
    refine q_loop (fun p st => ∃ gi K, st = (nI p, gi) ∧ (∀ k, k ≠ 36 → gi k = g k) ∧ c + 1 = h ^ p * (K + 1) ∧ (∀ q, q < p → gi 36 q = nI (dg h (c + 1) q)) ∧ ∀ q, p ≤ q → q < n → gi 36 q = nI (dg h c q)) _ n (by omega) ⟨g, c, rfl, fun _ _ => rfl, by rw [Nat.pow_zero, Nat.one_mul], fun q hq => absurd hq (by omega), fun q _ hq => hd q hq⟩ ?_ ?_
    · intro p st hp hI
      obtain ⟨gi, K, rfl, hf, hK, ha, hb⟩ := hI
      show (∃ s', bSe_nextWay_2 (nI h) (nI p) gi = some (.inl s') ∧ _) ∨ ∃ y, bSe_nextWay_2 (nI h) (nI p) gi = some (.inr y) ∧ _
      unfold bSe_nextWay_2
      have hi7 : gi 14 7 = nI n := by rw [hf 14 (by omega)]; exact h7
      obtain ⟨d1, d2⟩ := dg_step h0 hK
      have hKh : K % h < h := Nat.mod_lt _ h0
      have hK1 : (K + 1) % h = (K % h + 1) % h := by
        have := Nat.mul_add_mod h (K / h) (K % h + 1)
        rw [← Nat.add_assoc, Nat.div_add_mod] at this
        exact this
      rw [hi7, if_neg (nI_ge hp (by omega))]
      simp only [q_in (show p < 8 by omega) (show 8 < 2 ^ 31 by omega), q_gt, q_lt, nI_1, nI_clamp (show p < 2 ^ 31 by omega), hb p (Nat.le_refl p) hp, d1, st_eq]
      by_cases c1 : h ≤ K % h + 1
      · have c2 : nI h ≤ nI (K % h + 1) := nI_le c1 (by omega)
        have e0 : (K + 1) % h = 0 := by
          rw [hK1, show K % h + 1 = h by omega, Nat.mod_self]
        rw [if_pos c2]
        left
        obtain ⟨K', hK'⟩ := Nat.dvd_of_mod_eq_zero e0
        have hK'0 : K' ≠ 0 := fun z => by rw [z, Nat.mul_zero] at hK'; omega
        refine ⟨_, rfl, _, K' - 1, rfl, fun k hk => by rw [st_row _ _ _ hk, st_row _ _ _ hk]; exact hf k hk, ?_, fun q hq => ?_, fun q h1 h2 => ?_⟩
        · rw [show K' - 1 + 1 = K' by omega, Nat.pow_succ, Nat.mul_assoc, ← hK']
          exact hK
        · by_cases e : q = p
          · subst e
            rw [st_eq, d2, e0]
            rfl
          · rw [st_slot _ _ (Or.inr e), st_slot _ _ (Or.inr e)]
            exact ha q (by omega)
        · rw [st_slot _ _ (Or.inr (show q ≠ p by omega)), st_slot _ _ (Or.inr (show q ≠ p by omega))]
          exact hb q (by omega) h2
      · have c2 : ¬ nI h ≤ nI (K % h + 1) := fun z => c1 ((nI_leI (by omega) (by omega)).mp z)
        have e1 : (K + 1) % h = K % h + 1 := by rw [hK1, Nat.mod_eq_of_lt (by omega)]
        rw [if_neg c2]
        right
        refine ⟨_, rfl, _, Or.inl rfl, fun q hq => ?_, fun k hk => by rw [st_row _ _ _ hk]; exact hf k hk⟩
        by_cases e : q = p
        · subst e
          rw [st_eq, d2, e1]
        · rw [st_slot _ _ (Or.inr e)]
          by_cases l : q < p
          · exact ha q l
          · rw [hb q (by omega) hq, dg_high h0 hK (by omega) (show p < q by omega)]
    · intro st hI
      obtain ⟨gi, K, rfl, hf, hK, ha, hb⟩ := hI
      refine ⟨.inr gi, ?_, gi, Or.inr rfl, ha, hf⟩
      show bSe_nextWay_2 (nI h) (nI n) gi = _
      unfold bSe_nextWay_2
      have hi7 : gi 14 7 = nI n := by rw [hf 14 (by omega)]; exact h7
      rw [hi7, if_pos (nI_le (Nat.le_refl n) (by omega))]
  obtain ⟨y, e, g', hy, hd', hf⟩ := H
  refine ⟨g', ?_, hd', hf⟩
  rw [e, q_b1]
  rcases hy with rfl | rfl
  · rfl
  · rfl
theorem q_ways {n h : Nat} {g : nt_T} (hn : n ≤ 8) (h7 : g 14 7 = nI n) : fSe_waysOver (nI h) g = some (nI (h ^ n)) := by
  unfold fSe_waysOver
  have e : nt_it (fun z => bSe_waysOver_4 (nI h) g z.1 z.2) nt_fu ((1 : Int32), (0 : Int32)) = some (nI (h ^ n)) := by
    refine q_run (body := fun z => bSe_waysOver_4 (nI h) g z.1 z.2) (fun p => (nI (h ^ p), nI p)) _ n (by omega) (fun k hk => ?_) ?_
    · show bSe_waysOver_4 (nI h) g (nI (h ^ k)) (nI k) = _
      unfold bSe_waysOver_4
      rw [h7, if_neg (nI_ge hk (by omega)), q_lt, q_lt, nI_1, pk_mul, ← Nat.pow_succ]
    · show bSe_waysOver_4 (nI h) g (nI (h ^ n)) (nI n) = _
      unfold bSe_waysOver_4
      rw [h7, if_pos (nI_le (Nat.le_refl n) (by omega))]
  rw [e, q_b1]
theorem tb_E {r : nt_T} {n m : Nat} {g g' : nt_T} (h38 : g' 38 = g 38) (h39 : g' 39 = g 39) (h : nt_tb r n m g) : nt_tb r n m g' := by
  unfold nt_tb at h ⊢
  rw [h38, h39]
  exact h
theorem nI_not_le_m1 {a : Nat} (ha : a < 2 ^ 31) : ¬ nI a ≤ (-1 : Int32) := by
  rw [Int32.le_iff_toInt_le, nI_toInt ha, show (-1 : Int32).toInt = -1 by decide]
  omega
theorem q_search {n m nr h : Nat} {ln : Nat → Nat} {g r : nt_T} (hn : n ≤ 8) (h0 : 0 < h) (h4 : h ≤ 4) (hW : h ^ n ≤ 4096) (hQ : nt_Q 14 n m nr ln g r) : ∃ g', fSe_search nr ln (nI h) g = some g' ∧ nt_sC g g' ∧ g' 35 3 = nI (BW (SPS r n m h) (h ^ n - 1)).2 ∧ ∀ p, p < n → g' 37 p = nI (dg h (BW (SPS r n m h) (h ^ n - 1)).1 p) := by
  have hW1 : 0 < h ^ n := Nat.pow_pos h0
  obtain ⟨g1, e1, hs1, ht1, hz1⟩ := q_prep hn hQ
  have hs2 : nt_sC g (nt_st g1 35 3 (-1)) := sC_tr hs1 (sC_st (by omega))
  have h7 : (nt_st g1 35 3 (-1)) 14 7 = nI n := (S_Q hs2 (sM_rf r) hQ).2.2.2.1
  have hmin : nt_min (nI h) (nI n / (2 : Int32)) = nI (min h (n / 2)) := by
    have e : nI n / (2 : Int32) = nI (n / 2) := pk_div (a := n) (d := 2) (by omega) (by omega) (by omega)
    rw [e]
    unfold nt_min
    by_cases c : h ≤ n / 2
    · rw [Nat.min_eq_left c, if_neg (nI_nlt c (by omega))]
    · rw [Nat.min_eq_right (by omega), if_pos (nI_lt (by omega) (by omega))]
  have z2 : decide (¬ (2 : Int32) = 0) = true := by decide
  unfold fSe_search
  rw [e1, q_b1, q_lt, q_ways hn h7, q_b1, q_gd z2, q_lt, h7, hmin]
  have hbd := SPS_bd (r := r) (n := n) (m := m) (h := h)
  have hBl : min h (n / 2) ≤ 4 := by omega
  generalize min h (n / 2) = B at hbd hBl ⊢
  have hS4 : ∀ j, SPS r n m h j ≤ 4 := fun j => Nat.le_trans (cntB_le _ _) h4
  have hb4 : ∀ j, (BW (SPS r n m h) j).2 ≤ 4 := fun j => BW_bd hS4 j
  have H : ∃ y, nt_it (fun z => bSe_search_32 nr ln (nI h) (nI (h ^ n)) (nI B) z.1 z.2) nt_fu ((0 : Int32), nt_st g1 35 3 (-1)) = some y ∧ (nt_sC g y ∧ y 35 3 = nI (BW (SPS r n m h) (h ^ n - 1)).2 ∧ ∀ p, p < n → y 37 p = nI (dg h (BW (SPS r n m h) (h ^ n - 1)).1 p)) := by
    refine q_loop (fun k st => ∃ gk, st = (nI k, gk) ∧ k ≤ h ^ n ∧ nt_sC g gk ∧ nt_tb r n m gk ∧ nt_dg n (dg h k) gk ∧ ((k = 0 ∧ gk 35 3 = -1) ∨ (0 < k ∧ gk 35 3 = nI (BW (SPS r n m h) (k - 1)).2 ∧ ∀ p, p < n → gk 37 p = nI (dg h (BW (SPS r n m h) (k - 1)).1 p)))) _ (h ^ n) (by omega) ⟨_, rfl, by omega, hs2, tb_E (st_row _ _ _ (by omega)) (st_row _ _ _ (by omega)) ht1, fun p hp => ?_, Or.inl ⟨rfl, st_eq _ _ _ _⟩⟩ ?_ ?_
    · rw [st_slot _ _ (by omega), hz1 p hp, dg_0 h p h0]
      rfl
    · intro k st hk hI
      obtain ⟨gk, rfl, -, hs, ht, hd, hb⟩ := hI
      have hQk := S_Q hs (sM_rf r) hQ
      show (∃ s', bSe_search_32 nr ln (nI h) (nI (h ^ n)) (nI B) (nI k) gk = some (.inl s') ∧ _) ∨ ∃ y, bSe_search_32 nr ln (nI h) (nI (h ^ n)) (nI B) (nI k) gk = some (.inr y) ∧ _
      unfold bSe_search_32 jSe_search_83
      rw [if_neg (nI_ge hk (by omega))]
      by_cases c1 : nI B ≤ gk 35 3
      · rw [if_pos c1]
        right
        rcases hb with ⟨-, hb⟩ | ⟨hk0, hb, hb2⟩
        · rw [hb] at c1
          exact absurd c1 (nI_not_le_m1 (by omega))
        · rw [hb] at c1
          have := hb4 (k - 1)
          have c2 := (nI_leI (by omega) (by omega)).mp c1
          have e := BW_full hbd c2 (h ^ n - 1 - (k - 1))
          rw [show k - 1 + (h ^ n - 1 - (k - 1)) = h ^ n - 1 by omega] at e
          refine ⟨gk, rfl, hs, ?_, ?_⟩
          · rw [e]; exact hb
          · rw [e]; exact hb2
      · rw [if_neg c1]
        left
        obtain ⟨g3, e3, hC3⟩ := q_hws hn h4 hQk (fun p _ => dg_lt h0 k p) hd ht
        have e3 : fSe_housesWithStory (nI h) gk = some (nI (SPS r n m h k), g3) := e3
        rw [e3, q_b2]
        have f35 : g3 35 3 = gk 35 3 := hC3 35 3 (by omega) (by omega) (by omega)
        have hs3 : nt_sC g g3 := sC_tr hs (hC_s hC3)
        have ht3 : nt_tb r n m g3 := tb_E (funext (fun j => hC3 38 j (by omega) (by omega) (by omega))) (funext (fun j => hC3 39 j (by omega) (by omega) (by omega))) ht
        have hd3 : nt_dg n (dg h k) g3 := fun p hp => by rw [hC3 36 p (by omega) (by omega) (by omega)]; exact hd p hp
        have hQ3 := S_Q hs3 (sM_rf r) hQ
        rw [f35]
        have recd : ¬ nI (SPS r n m h k) ≤ gk 35 3 → (k = 0 ∨ ¬ SPS r n m h k ≤ (BW (SPS r n m h) (k - 1)).2) → ∃ s', (if nI (SPS r n m h k) ≤ gk 35 3 then (nt_b1 (fSe_nextWay (nI h) g3) fun g11 => nt_lt (nI k + (1 : Int32)) fun v12 => some (.inl (v12, g11))) else (nt_lt (nt_st g3 35 3 (nI (SPS r n m h k))) fun g13 => nt_gd (nt_cpok (0 : Int32) (0 : Int32) (8 : Int32) 8 8) <| nt_lt (nt_sc g13 37 (va_cpy (g13 36) (g13 37) (Int32.toNatClampNeg (0 : Int32)) (Int32.toNatClampNeg (0 : Int32)) (Int32.toNatClampNeg (8 : Int32)))) fun g15 => nt_b1 (fSe_nextWay (nI h) g15) fun g11 => nt_lt (nI k + (1 : Int32)) fun v12 => some (.inl (v12, g11)))) = some (.inl s' : (Int32 × nt_T) ⊕ nt_T) ∧ ∃ gk, s' = (nI (k + 1), gk) ∧ k + 1 ≤ h ^ n ∧ nt_sC g gk ∧ nt_tb r n m gk ∧ nt_dg n (dg h (k + 1)) gk ∧ ((k + 1 = 0 ∧ gk 35 3 = -1) ∨ (0 < k + 1 ∧ gk 35 3 = nI (BW (SPS r n m h) (k + 1 - 1)).2 ∧ ∀ p, p < n → gk 37 p = nI (dg h (BW (SPS r n m h) (k + 1 - 1)).1 p))) := by
          intro cc hor
          have eB : BW (SPS r n m h) k = (k, SPS r n m h k) := by
            cases k with
            | zero => rfl
            | succ k =>
              rw [BW, if_neg (by
                rcases hor with z | z
                · exact absurd z (by omega)
                · exact z)]
          have z1 : nt_cpok (0 : Int32) (0 : Int32) (8 : Int32) 8 8 = true := by decide
          rw [if_neg cc, q_lt, q_gd z1, q_lt, show Int32.toNatClampNeg (0 : Int32) = 0 by decide, show Int32.toNatClampNeg (8 : Int32) = 8 by decide]
          have hs4 : nt_sC g (nt_sc (nt_st g3 35 3 (nI (SPS r n m h k))) 37 (va_cpy ((nt_st g3 35 3 (nI (SPS r n m h k))) 36) ((nt_st g3 35 3 (nI (SPS r n m h k))) 37) 0 0 8)) := sC_tr (sC_tr hs3 (sC_st (k := 35) (j := 3) (v := nI (SPS r n m h k)) (by omega))) (fun k' j' _ _ c => by rw [scw_ne _ _ (show k' ≠ 37 by omega)])
          have hQ4 := S_Q hs4 (sM_rf r) hQ
          obtain ⟨g5, e5, hd5, hf5⟩ := q_next (c := k) (g := nt_sc (nt_st g3 35 3 (nI (SPS r n m h k))) 37 (va_cpy ((nt_st g3 35 3 (nI (SPS r n m h k))) 36) ((nt_st g3 35 3 (nI (SPS r n m h k))) 37) 0 0 8)) hn h0 h4 hQ4.2.2.2.1 (fun p hp => by
            rw [scw_ne _ _ (show (36 : Nat) ≠ 37 by omega), st_row _ _ _ (show (36 : Nat) ≠ 35 by omega)]
            exact hd3 p hp)
          rw [e5, q_b1, nI_1, q_lt]
          refine ⟨_, rfl, g5, rfl, by omega, fun k' j' a b c => by rw [hf5 k' (by omega)]; exact hs4 k' j' a b c, tb_E (by rw [hf5 38 (by omega), scw_ne _ _ (by omega), st_row _ _ _ (by omega)]) (by rw [hf5 39 (by omega), scw_ne _ _ (by omega), st_row _ _ _ (by omega)]) ht3, hd5, Or.inr ⟨by omega, ?_, fun p hp => ?_⟩⟩
          · rw [Nat.add_sub_cancel, eB, hf5 35 (by omega), scw_ne _ _ (by omega), st_eq]
          · rw [Nat.add_sub_cancel, eB, hf5 37 (by omega), scw_eq, q_cpy0, if_pos (by omega), st_row _ _ _ (show (36 : Nat) ≠ 35 by omega)]
            exact hd3 p hp
        by_cases c2 : nI (SPS r n m h k) ≤ gk 35 3
        · rcases hb with ⟨-, hb⟩ | ⟨hk0, hb, hb2⟩
          · rw [hb] at c2
            exact absurd c2 (nI_not_le_m1 (by have := hS4 k; omega))
          · rw [if_pos c2]
            rw [hb] at c2
            have w1 := hb4 (k - 1)
            have w2 := hS4 k
            have c3 := (nI_leI (by omega) (by omega)).mp c2
            obtain ⟨g5, e5, hd5, hf5⟩ := q_next hn h0 h4 hQ3.2.2.2.1 hd3
            rw [e5, q_b1, nI_1, q_lt]
            have eB : BW (SPS r n m h) k = BW (SPS r n m h) (k - 1) := by
              cases k with
              | zero => exact absurd hk0 (by omega)
              | succ k =>
                rw [Nat.add_sub_cancel] at c3 ⊢
                rw [BW, if_pos c3]
            refine ⟨_, rfl, g5, rfl, by omega, fun k' j' a b c => by rw [hf5 k' (by omega)]; exact hs3 k' j' a b c, tb_E (hf5 38 (by omega)) (hf5 39 (by omega)) ht3, hd5, Or.inr ⟨by omega, ?_, fun p hp => ?_⟩⟩
            · rw [Nat.add_sub_cancel, eB, hf5 35 (by omega), f35]; exact hb
            · rw [Nat.add_sub_cancel, eB, hf5 37 (by omega), hC3 37 p (by omega) (by omega) (by omega)]; exact hb2 p hp
        · refine recd c2 ?_
          rcases hb with ⟨z, -⟩ | ⟨hk0, hb, -⟩
          · exact Or.inl z
          · right
            intro c3
            rw [hb] at c2
            exact c2 (nI_le c3 (by have := hb4 (k - 1); omega))
    · intro st hI
      obtain ⟨gk, rfl, -, hs, ht, hd, hb⟩ := hI
      rcases hb with ⟨z, -⟩ | ⟨hk0, hb, hb2⟩
      · omega
      · refine ⟨gk, ?_, hs, hb, hb2⟩
        show bSe_search_32 nr ln (nI h) (nI (h ^ n)) (nI B) (nI (h ^ n)) gk = _
        unfold bSe_search_32
        rw [if_pos (nI_le (Nat.le_refl _) (by omega))]
  obtain ⟨y, e, a⟩ := H
  rw [e, q_b1]
  exact ⟨y, rfl, a⟩
