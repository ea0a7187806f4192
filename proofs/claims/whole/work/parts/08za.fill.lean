/-! ===== spread: the class's count for one way ===== -/
def nt_dg (n : Nat) (D : Nat → Nat) (g : nt_T) : Prop := ∀ p, p < n → g 36 p = nI (D p)
/-- only the counts by house change -/
def nt_hC (g g' : nt_T) : Prop := ∀ k j, k ≠ 40 → k ≠ 41 → k ≠ 42 → g' k j = g k j
theorem hC_s {g g' : nt_T} (h : nt_hC g g') : nt_sC g g' := fun k j _ _ c => h k j (by omega) (by omega) (by omega)
def cH (n : Nat) (D : Nat → Nat) (e : Nat) : Nat := cntB (fun q => decide (D q = e)) n
def cK (r : nt_T) (n m : Nat) (D : Nat → Nat) (e i : Nat) : Nat := cntB (fun q => decide (D q = e) && bt (kn r m q) i) n
theorem q_fill {n m nr h : Nat} {ln : Nat → Nat} {D : Nat → Nat} {g r : nt_T} (hn : n ≤ 8) (h4 : h ≤ 4) (hQ : nt_Q 14 n m nr ln g r) (hD : ∀ p, p < n → D p < h) (hd : nt_dg n D g) (ht : nt_tb r n m g) : ∃ g', fSe_fillHouses (nI h) g = some g' ∧ nt_hC g g' ∧ ∀ e, e < h → g' 40 e = nI (cH n D e) ∧ ∀ i, i < 32 → bt (g' 41 e) i = decide (1 ≤ cK r n m D e i) ∧ bt (g' 42 e) i = decide (2 ≤ cK r n m D e i) := by
  have h7 : g 14 7 = nI n := hQ.2.2.2.1
  unfold fSe_fillHouses
  have H1 : ∃ y, nt_it (fun z => bSe_fillHouses_2 (nI h) z.1 z.2) nt_fu ((0 : Int32), g) = some y ∧ (nt_hC g y ∧ ∀ e, e < h → y 40 e = 0 ∧ y 41 e = 0 ∧ y 42 e = 0) := by
    refine q_loop (fun p st => ∃ gi, st = (nI p, gi) ∧ nt_hC g gi ∧ ∀ e, e < p → gi 40 e = 0 ∧ gi 41 e = 0 ∧ gi 42 e = 0) _ h (by omega) ⟨g, rfl, fun _ _ _ _ _ => rfl, fun e he => absurd he (by omega)⟩ ?_ ?_
    · intro p st hp hI
      obtain ⟨gi, rfl, hs, hq⟩ := hI
      left
      show ∃ s', bSe_fillHouses_2 (nI h) (nI p) gi = some (.inl s') ∧ _
      unfold bSe_fillHouses_2
      rw [if_neg (nI_ge hp (by omega))]
      simp only [q_in (show p < 4 by omega) (show 4 < 2 ^ 31 by omega), q_gt, q_lt, nI_1, nI_clamp (show p < 2 ^ 31 by omega)]
      refine ⟨_, rfl, _, rfl, fun k j a b c => ?_, fun e he => ?_⟩
      · rw [st_slot _ _ (by omega), st_slot _ _ (by omega), st_slot _ _ (by omega)]
        exact hs k j a b c
      · by_cases c : e = p
        · subst c
          rw [st_eq, st_slot _ _ (by omega), st_slot _ _ (by omega), st_eq, st_slot _ _ (by omega), st_eq]
          exact ⟨rfl, rfl, rfl⟩
        · rw [st_slot _ _ (by omega), st_slot _ _ (by omega), st_slot _ _ (by omega), st_slot _ _ (by omega), st_slot _ _ (by omega), st_slot _ _ (by omega), st_slot _ _ (by omega), st_slot _ _ (by omega), st_slot _ _ (by omega)]
          exact hq e (by omega)
    · intro st hI
      obtain ⟨gi, rfl, hs, hq⟩ := hI
      refine ⟨gi, ?_, hs, hq⟩
      show bSe_fillHouses_2 (nI h) (nI h) gi = _
      unfold bSe_fillHouses_2
      rw [if_pos (nI_le (Nat.le_refl h) (by omega))]
  obtain ⟨g1, e1, hC1, hz⟩ := H1
  rw [e1, q_b1]
  have H2 : ∃ y, nt_it (fun z => bSe_fillHouses_36 z.1 z.2) nt_fu ((0 : Int32), g1) = some y ∧ (nt_hC g y ∧ ∀ e, e < h → y 40 e = nI (cH n D e) ∧ ∀ i, i < 32 → bt (y 41 e) i = decide (1 ≤ cK r n m D e i) ∧ bt (y 42 e) i = decide (2 ≤ cK r n m D e i)) := by
    refine q_loop (fun p st => ∃ gi, st = (nI p, gi) ∧ nt_hC g gi ∧ ∀ e, e < h → gi 40 e = nI (cH p D e) ∧ ∀ i, i < 32 → bt (gi 41 e) i = decide (1 ≤ cK r p m D e i) ∧ bt (gi 42 e) i = decide (2 ≤ cK r p m D e i)) _ n (by omega) ⟨g1, rfl, hC1, fun e he => ?_⟩ ?_ ?_
    · obtain ⟨a, b, c⟩ := hz e he
      rw [a, b, c]
      exact ⟨rfl, fun i hi => by rw [b_0]; exact ⟨rfl, rfl⟩⟩
    · intro p st hp hI
      obtain ⟨gi, rfl, hs, hq⟩ := hI
      left
      show ∃ s', bSe_fillHouses_36 (nI p) gi = some (.inl s') ∧ _
      unfold bSe_fillHouses_36
      have hi7 : gi 14 7 = nI n := by rw [hs 14 7 (by omega) (by omega) (by omega)]; exact h7
      have h36 : gi 36 p = nI (D p) := by rw [hs 36 p (by omega) (by omega) (by omega)]; exact hd p hp
      have h38 : gi 38 p = kn r m p := by rw [hs 38 p (by omega) (by omega) (by omega)]; exact ht.1 p hp
      have hDp := hD p hp
      rw [hi7, if_neg (nI_ge hp (by omega))]
      simp only [q_in (show p < 8 by omega) (show 8 < 2 ^ 31 by omega), q_gt, q_lt, nI_1, nI_clamp (show p < 2 ^ 31 by omega), h36, q_in (show D p < 4 by omega) (show 4 < 2 ^ 31 by omega), nI_clamp (show D p < 2 ^ 31 by omega)]
      refine ⟨_, rfl, _, rfl, fun k j a b c => ?_, fun e he => ?_⟩
      · rw [st_slot _ _ (by omega), st_slot _ _ (by omega), st_slot _ _ (by omega)]
        exact hs k j a b c
      · have hc : cH (p + 1) D e = cH p D e + (if decide (D p = e) then 1 else 0) := rfl
        have hk : ∀ i, cK r (p + 1) m D e i = cK r p m D e i + (if decide (D p = e) && bt (kn r m p) i then 1 else 0) := fun i => rfl
        obtain ⟨b1, b2⟩ := hq e he
        by_cases c : e = D p
        · have c : D p = e := c.symm
          rw [decide_eq_true c] at hc
          simp only [decide_eq_true c, Bool.true_and] at hk
          rw [c]
          refine ⟨?_, fun i hi => ?_⟩
          · rw [st_slot _ _ (by omega), st_slot _ _ (by omega), st_eq, b1, nI_1, hc]
            rfl
          · obtain ⟨d1, d2⟩ := b2 i hi
            rw [st_eq, st_slot _ _ (show (42 : Nat) ≠ 41 ∨ e ≠ e by omega), st_eq]
            rw [st_slot _ _ (show (41 : Nat) ≠ 42 ∨ e ≠ e by omega), st_slot _ _ (show (41 : Nat) ≠ 40 ∨ e ≠ e by omega), st_slot _ _ (show (38 : Nat) ≠ 42 ∨ p ≠ e by omega), st_slot _ _ (show (38 : Nat) ≠ 40 ∨ p ≠ e by omega), st_slot _ _ (show (42 : Nat) ≠ 40 ∨ e ≠ e by omega), h38, b_or, b_or, b_and, d1, d2, hk i]
            generalize cK r p m D e i = N
            cases bt (kn r m p) i
            · simp
            · simp only [Bool.or_true, Bool.and_true, if_true]
              refine ⟨(decide_eq_true (by omega)).symm, ?_⟩
              by_cases z : 1 ≤ N
              · rw [decide_eq_true z, decide_eq_true (show 2 ≤ N + 1 by omega), Bool.or_true]
              · rw [decide_eq_false z, decide_eq_false (show ¬ 2 ≤ N + 1 by omega), decide_eq_false (show ¬ 2 ≤ N by omega)]
                rfl
        · have c' : ¬ D p = e := fun z => c z.symm
          rw [decide_eq_false c'] at hc
          simp only [decide_eq_false c', Bool.false_and] at hk
          refine ⟨?_, fun i hi => ?_⟩
          · rw [st_slot _ _ (by omega), st_slot _ _ (by omega), st_slot _ _ (by omega), b1, hc]
            rfl
          · rw [st_slot _ _ (by omega), st_slot _ _ (by omega), st_slot _ _ (by omega), st_slot _ _ (by omega), st_slot _ _ (by omega), st_slot _ _ (by omega), hk i]
            exact b2 i hi
    · intro st hI
      obtain ⟨gi, rfl, hs, hq⟩ := hI
      refine ⟨gi, ?_, hs, hq⟩
      show bSe_fillHouses_36 (nI n) gi = _
      unfold bSe_fillHouses_36
      have hi7 : gi 14 7 = nI n := by rw [hs 14 7 (by omega) (by omega) (by omega)]; exact h7
      rw [hi7, if_pos (nI_le (Nat.le_refl n) (by omega))]
  obtain ⟨y, e, a, b⟩ := H2
  rw [e, q_b1]
  exact ⟨y, rfl, a, b⟩
theorem cK_off {r : nt_T} {n m : Nat} {D : Nat → Nat} {p i : Nat} (hp : p < n) : cK r n m D (D p) i = cntB (fun q => !decide (q = p) && (decide (D q = D p) && bt (kn r m q) i)) n + (if bt (kn r m p) i then 1 else 0) := by
  unfold cK
  rw [cntB_off (f := fun q => decide (D q = D p) && bt (kn r m q) i) hp]
  simp
theorem q_hws {n m nr h : Nat} {ln : Nat → Nat} {D : Nat → Nat} {g r : nt_T} (hn : n ≤ 8) (h4 : h ≤ 4) (hQ : nt_Q 14 n m nr ln g r) (hD : ∀ p, p < n → D p < h) (hd : nt_dg n D g) (ht : nt_tb r n m g) : ∃ g', fSe_housesWithStory (nI h) g = some (nI (cntB (SPH r n m D) h), g') ∧ nt_hC g g' := by
  have hm8 := hQ.1.1
  obtain ⟨g1, e1, hC, hf⟩ := q_fill hn h4 hQ hD hd ht
  have h7 : g1 14 7 = nI n := by rw [hC 14 7 (by omega) (by omega) (by omega)]; exact hQ.2.2.2.1
  unfold fSe_housesWithStory
  rw [e1, q_b1]
  have H : ∃ y, nt_it (fun z => bSe_housesWithStory_9 g1 z.1 z.2) nt_fu ((0 : Int32), (0 : Int32)) = some y ∧ isB y (SPH r n m D) h := by
    refine q_loop (fun p st => ∃ v, st = (v, nI p) ∧ ∀ e, e < 32 → bt v e = (decide (e < h) && decide (0 < cntB (fun q => decide (0 < cntB (SPT r n m D e q) m)) p))) _ n (by omega) ⟨0, rfl, fun e he => by rw [b_0]; simp [cntB]⟩ ?_ ?_
    · intro p st hp hI
      obtain ⟨v, rfl, hv⟩ := hI
      left
      show ∃ s', bSe_housesWithStory_9 g1 v (nI p) = some (.inl s') ∧ _
      unfold bSe_housesWithStory_9
      have h36 : g1 36 p = nI (D p) := by rw [hC 36 p (by omega) (by omega) (by omega)]; exact hd p hp
      have h38 : g1 38 p = kn r m p := by rw [hC 38 p (by omega) (by omega) (by omega)]; exact ht.1 p hp
      have hDp := hD p hp
      obtain ⟨f1, f2⟩ := hf (D p) hDp
      have hcn : cH n D (D p) ≤ n := cntB_le _ _
      have ix : (nI p * (9 : Int32)) + nI (cH n D (D p)) = nI (9 * p + cH n D (D p)) := by rw [show (9 : Int32) = nI 9 from rfl, pk_mul, nI_add, Nat.mul_comm]
      rw [h7, if_neg (nI_ge hp (by omega))]
      simp only [q_in (show p < 8 by omega) (show 8 < 2 ^ 31 by omega), q_gt, q_lt, nI_1, nI_clamp (show p < 2 ^ 31 by omega), h36, q_in (show D p < 4 by omega) (show 4 < 2 ^ 31 by omega), nI_clamp (show D p < 2 ^ 31 by omega), f1, ix, q_in (show 9 * p + cH n D (D p) < 72 by omega) (show 72 < 2 ^ 31 by omega), nI_clamp (show 9 * p + cH n D (D p) < 2 ^ 31 by omega), h38]
      have stp : ∀ e, cntB (fun q => decide (0 < cntB (SPT r n m D e q) m)) (p + 1) = cntB (fun q => decide (0 < cntB (SPT r n m D e q) m)) p + (if decide (0 < cntB (SPT r n m D e p) m) then 1 else 0) := fun e => rfl
      have oth : ∀ e, e ≠ D p → cntB (SPT r n m D e p) m = 0 := fun e he => cntB_0.mpr (fun s _ => by unfold SPT; rw [decide_eq_false (fun z => he z.symm), Bool.false_and])
      have skip : cntB (SPT r n m D (D p) p) m = 0 → ∀ e, e < 32 → bt v e = (decide (e < h) && decide (0 < cntB (fun q => decide (0 < cntB (SPT r n m D e q) m)) (p + 1))) := by
        intro h0 e he
        rw [hv e he, stp e]
        have : cntB (SPT r n m D e p) m = 0 := by
          by_cases c : e = D p
          · rw [c]; exact h0
          · exact oth e c
        rw [this]
        rfl
      by_cases c1 : nI (cH n D (D p)) < (2 : Int32)
      · rw [if_pos c1]
        have c2 : cH n D (D p) < 2 := (nI_ltI (a := cH n D (D p)) (b := 2) (by omega) (by omega)).mp c1
        refine ⟨_, rfl, v, rfl, skip (cntB_0.mpr (fun s _ => ?_))⟩
        unfold SPT
        rw [show decide (2 ≤ cntB (fun q => decide (D q = D p)) n) = false from decide_eq_false (by unfold cH at c2; omega)]
        simp
      · rw [if_neg c1]
        have c2 : 2 ≤ cH n D (D p) := by
          have : ¬ cH n D (D p) < 2 := fun z => c1 ((nI_ltI (a := cH n D (D p)) (b := 2) (by omega) (by omega)).mpr z)
          omega
        have haw := ht.2 p hp (cH n D (D p)) c2 hcn
        rw [← show g1 39 (9 * p + cH n D (D p)) = g 39 (9 * p + cH n D (D p)) from hC 39 _ (by omega) (by omega) (by omega)] at haw
        have hT : ∀ s, s < 32 → bt (g1 39 (9 * p + cH n D (D p)) &&& ((g1 42 (D p) ||| (g1 41 (D p) &&& (kn r m p ^^^ (-1 : Int32)))) ^^^ (-1 : Int32))) s = (decide (s < m) && SPT r n m D (D p) p s) := by
          intro s hs
          rw [b_and, q_not _ hs, b_or, b_and, q_not _ hs, haw s hs, (f2 s hs).1, (f2 s hs).2, cK_off hp]
          unfold SPT AW
          rw [decide_eq_true (show D p = D p from rfl), Bool.true_and, show decide (2 ≤ cntB (fun q => decide (D q = D p)) n) = true from decide_eq_true c2]
          rw [show cH n D (D p) = cntB (fun q => decide (D q = D p)) n from rfl]
          generalize cntB (fun q => !decide (q = p) && (decide (D q = D p) && bt (kn r m q) s)) n = N
          generalize decide (VAL r 2 p s (cntB (fun q => decide (D q = D p)) n) = 0) = V
          generalize bt (r 9 p) s = B
          generalize decide (s < m) = M
          have : (!(decide (2 ≤ N + (if bt (kn r m p) s then 1 else 0)) || (decide (1 ≤ N + (if bt (kn r m p) s then 1 else 0)) && !bt (kn r m p) s))) = decide (N = 0) := by
            cases bt (kn r m p) s
            · simp only [Bool.false_eq_true, if_false, Bool.not_false, Bool.and_true, Nat.add_zero]
              by_cases z : N = 0
              · subst z; rfl
              · rw [decide_eq_true (show 1 ≤ N by omega), decide_eq_false z, Bool.or_true]; rfl
            · simp only [if_true, Bool.not_true, Bool.and_false, Bool.or_false]
              by_cases z : N = 0
              · subst z; rfl
              · rw [decide_eq_true (show 2 ≤ N + 1 by omega), decide_eq_false z]; rfl
          rw [this]
          cases M <;> cases B <;> cases V <;> cases decide (N = 0) <;> rfl
        have hz := isB_z (f := SPT r n m D (D p) p) (n := m) (by omega) hT
        by_cases c3 : (g1 39 (9 * p + cH n D (D p)) &&& ((g1 42 (D p) ||| (g1 41 (D p) &&& (kn r m p ^^^ (-1 : Int32)))) ^^^ (-1 : Int32))) = 0
        · rw [if_pos c3]
          exact ⟨_, rfl, v, rfl, skip (hz.mp c3)⟩
        · rw [if_neg c3]
          have hpos : 0 < cntB (SPT r n m D (D p) p) m := by
            have : ¬ cntB (SPT r n m D (D p) p) m = 0 := fun z => c3 (hz.mpr z)
            omega
          refine ⟨_, rfl, _, rfl, fun e he => ?_⟩
          rw [q_set v (show D p < 32 by omega) he, hv e he, stp e]
          by_cases c : e = D p
          · subst c
            rw [decide_eq_true (show D p = D p from rfl), Bool.or_true, decide_eq_true hDp, decide_eq_true hpos, Bool.true_and, if_pos rfl]
            exact (decide_eq_true (by omega)).symm
          · rw [decide_eq_false c, Bool.or_false, oth e c]
            rfl
    · intro st hI
      obtain ⟨v, rfl, hv⟩ := hI
      refine ⟨v, ?_, fun e he => hv e he⟩
      show bSe_housesWithStory_9 g1 v (nI n) = _
      unfold bSe_housesWithStory_9
      rw [h7, if_pos (nI_le (Nat.le_refl n) (by omega))]
  obtain ⟨v, e, hv⟩ := H
  rw [e, q_b1, (isB_cnt (by omega) hv g1).1, q_b1]
  exact ⟨g1, rfl, hC⟩
