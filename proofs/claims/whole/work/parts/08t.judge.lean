/-! ===== judge, drawn ===== -/
/-- two loops side by side; the second may go round once more at the end -/
theorem nt_inv3 {S X T Y : Type} {b1 : S → Option (S ⊕ X)} {b2 : T → Option (T ⊕ Y)} (I : Nat → S → T → Prop) (P : X → Y → Prop) (n : Nat)
    (hs : ∀ k s t, k < n → I k s t → (∃ s' t', b1 s = some (.inl s') ∧ b2 t = some (.inl t') ∧ I (k + 1) s' t') ∨ (∃ x t' y, b1 s = some (.inr x) ∧ b2 t = some (.inl t') ∧ b2 t' = some (.inr y) ∧ P x y))
    (he : ∀ s t, I n s t → ∃ x y, b1 s = some (.inr x) ∧ b2 t = some (.inr y) ∧ P x y) :
    ∀ (d k : Nat) (s : S) (t : T), k + d = n → I k s t → ∀ fu, d + 1 < fu → ∃ x y, nt_it b1 fu s = some x ∧ nt_it b2 fu t = some y ∧ P x y := by
  intro d
  induction d with
  | zero =>
    intro k s t hk hI fu hfu
    obtain ⟨f, rfl⟩ : ∃ f, fu = f + 1 := ⟨fu - 1, by omega⟩
    obtain rfl : k = n := by omega
    obtain ⟨x, y, h1, h2, h3⟩ := he s t hI
    exact ⟨x, y, by rw [nt_it, h1], by rw [nt_it, h2], h3⟩
  | succ d ih =>
    intro k s t hk hI fu hfu
    obtain ⟨f, rfl⟩ : ∃ f, fu = f + 2 := ⟨fu - 2, by omega⟩
    rcases hs k s t (by omega) hI with ⟨s', t', h1, h2, h3⟩ | ⟨x, t', y, h1, h2, h4, h3⟩
    · obtain ⟨x, y, h4, h5, h6⟩ := ih (k + 1) s' t' (by omega) h3 (f + 1) (by omega)
      exact ⟨x, y, by rw [nt_it, h1]; exact h4, by rw [nt_it, h2]; exact h5, h6⟩
    · exact ⟨x, y, by rw [nt_it, h1], by rw [nt_it, h2]; show nt_it b2 (f + 1) t' = _; rw [nt_it, h4], h3⟩
theorem q_both3 {S X T Y : Type} {b1 : S → Option (S ⊕ X)} {b2 : T → Option (T ⊕ Y)} (I : Nat → S → T → Prop) (P : X → Y → Prop) (n : Nat) (hn : n < 4000) {s : S} {t : T} (h0 : I 0 s t)
    (hs : ∀ k s t, k < n → I k s t → (∃ s' t', b1 s = some (.inl s') ∧ b2 t = some (.inl t') ∧ I (k + 1) s' t') ∨ (∃ x t' y, b1 s = some (.inr x) ∧ b2 t = some (.inl t') ∧ b2 t' = some (.inr y) ∧ P x y))
    (he : ∀ s t, I n s t → ∃ x y, b1 s = some (.inr x) ∧ b2 t = some (.inr y) ∧ P x y) : ∃ x y, nt_it b1 nt_fu s = some x ∧ nt_it b2 nt_fu t = some y ∧ P x y :=
  nt_inv3 I P n hs he n 0 s t (by omega) h0 nt_fu (by unfold nt_fu; omega)
/-- what the reference laid aside -/
def nt_aE (r r' : nt_T) : Prop := ∀ k j, k ≠ 13 → k ≠ 14 → k ≠ 15 → ¬ (k = 0 ∧ j = 38) → r' k j = r k j
theorem Q_aE {b n m nr : Nat} {ln : Nat → Nat} {g r r' : nt_T} (hf : nt_aE r r') (hQ : nt_Q b n m nr ln g r) : nt_Q b n m nr ln g r' := by
  have row : ∀ k, k ≠ 0 → k ≠ 13 → k ≠ 14 → k ≠ 15 → r' k = r k := fun k a b c d => funext (fun j => hf k j b c d (by omega))
  have slot : ∀ j, j ≠ 38 → r' 0 j = r 0 j := fun j a => hf 0 j (by omega) (by omega) (by omega) (by omega)
  exact ⟨qS_F (fun k _ _ => rfl) (fun k h1 h2 => row k (by omega) (by omega) (by omega) (by omega)) (slot 11 (by omega)) hQ.1, qT_F rfl (fun k _ => rfl) (row 1 (by omega) (by omega) (by omega) (by omega)) (row 2 (by omega) (by omega) (by omega) (by omega)) (slot 3 (by omega)) (slot 4 (by omega)) hQ.2.1, qP_F (fun k _ _ => rfl) (fun k h1 h2 => row k (by omega) (by omega) (by omega) (by omega)) (fun j hj => slot j (by omega)) hQ.2.2⟩
theorem Rel_back {n m nr : Nat} {ln : Nat → Nat} {g r0 g' r1 r2 : nt_T} (hn : n ≤ 8) (hQ : nt_Q 14 n m nr ln g r0) (hO : nt_O n nr g r0) (ha : nt_laid r0 r1) (hf : nt_aE r0 r1) (hc : nt_pE 21 g g') (hm : nt_rE r1 r2) : ∃ r3, fMo_laysBack r2 = some r3 ∧ nt_Rel nr ln g' r3 := by
  have row2 : ∀ k, k ≠ 0 → k < 10 ∨ 15 < k → r2 k = r0 k := fun k a b => by
    rw [rE_row hm (k := k) (by omega)]
    exact funext (fun j => hf k j (by omega) (by omega) (by omega) (by omega))
  have slot2 : ∀ j, j < 18 ∨ (38 < j ∧ j < 130) → r2 0 j = r0 0 j := fun j a => by
    rw [hm 0 j (by unfold nt_mS; omega) (by omega) (by omega) (by omega) (by omega)]
    exact hf 0 j (by omega) (by omega) (by omega) (by omega)
  obtain ⟨r3, e, hP, hf3⟩ := q_restore hn hQ.2.2 (laid_E hm ha) (row2 8 (by omega) (by omega)) (row2 9 (by omega) (by omega)) (slot2 17 (by omega)) (slot2 4 (by omega))
  have row : ∀ k, k ≠ 0 → k < 10 ∨ 15 < k → r3 k = r0 k := fun k a b => by
    rw [← row2 k a b]
    exact funext (fun j => hf3 k j (by omega) (by omega) (by omega) (by omega))
  have slot : ∀ j, j < 18 ∨ (38 < j ∧ j < 130) → r3 0 j = r0 0 j := fun j a => by
    rw [← slot2 j a]
    exact hf3 0 j (by omega) (by omega) (by omega) (by omega)
  refine ⟨r3, e, Rel_21 hn (r := r3) ⟨qS_F (fun k _ _ => rfl) (fun k h1 h2 => row k (by omega) (by omega)) (slot 11 (by omega)) hQ.1, qT_F rfl (fun k _ => rfl) (row 1 (by omega) (by omega)) (row 2 (by omega) (by omega)) (slot 3 (by omega)) (slot 4 (by omega)) hQ.2.1, hP⟩ ⟨qR_F rfl rfl (slot 6 (by omega)) (row 3 (by omega) (by omega)) hO.1, qI_F rfl (fun k _ _ => rfl) (fun j h1 h2 => slot j (by omega)) (fun k h1 h2 => row k (by omega) (by omega)) hO.2.1, qH_F (fun k _ _ => rfl) (fun k h1 h2 => row k (by omega) (by omega)) hO.2.2⟩ hc (mE_rf r3)⟩
theorem q_aside2 (r : nt_T) : ∃ r', fMo_laysAside r = some r' ∧ nt_laid r r' ∧ nt_aE r r' := by
  obtain ⟨r', e, a, b, c, d⟩ := q_aside r
  exact ⟨r', e, ⟨fun p hp => a p hp, b, c⟩, d⟩
theorem st_judge {nr : Nat} {ln : Nat → Nat} {g r : nt_T} (h : nt_Rel nr ln g r) (x1 : Int32) : ∃ (v : Int32) (ga : nt_T) (gb : nt_T), fNt_judge nr ln x1 g = some (v, ga) ∧ fMo_judge x1 r = some (v, gb) ∧ nt_Rel nr ln ga gb := by
  obtain ⟨m, n, hn, hQ, hO⟩ := id h
  have hm8 := hQ.1.1
  have hH := hO.2.2
  unfold fNt_judge fMo_judge
  rw [(q_sh x1 g r).1, (q_sh x1 g r).2, q_b1, q_b1]
  cases h1 : nt_in x1 4
  · exact ⟨_, _, _, if_pos rfl, if_pos rfl, h⟩
  rw [if_neg (show ¬ bI true = 0 by decide), if_neg (show ¬ bI true = 0 by decide)]
  obtain ⟨c, hc, rfl⟩ := q_in_of (by omega) h1
  have hin := q_in hc (show 4 < 2 ^ 31 by omega)
  have hcl := nI_clamp (show c < 2 ^ 31 by omega)
  have z : decide (¬ (2 : Int32) = 0) = true := by decide
  rw [q_miss hc, q_b1]
  simp only [hin, hcl, q_gt, z]
  rcases hH c hc with ⟨f1, f2⟩ | ⟨k, N, f1, f2, f3, f4, f5, f6, f7, f8⟩
  · rw [decide_eq_true f1, if_neg (show ¬ bI true = 0 by decide), if_pos f2]
    exact ⟨_, _, _, rfl, rfl, h⟩
  have hz : ¬ r 21 c = 0 := by rw [f4]; decide
  have em : nI N - nI N / (2 : Int32) * (2 : Int32) = nI (N % 2) := pk_rem (a := N) (d := 2) (by omega) (by omega) (by omega)
  rw [decide_eq_false (by rw [f3]; exact nI_m1 (by omega)), if_pos (show bI false = 0 from rfl), if_neg hz, f6, f7, em]
  by_cases hev : N % 2 = 1
  · have n0 : ¬ nI (N % 2) = 0 := by rw [hev]; decide
    have n1 : nI (N % 2) = (1 : Int32) := by rw [hev]; rfl
    rw [if_neg n0, if_pos n1]
    exact ⟨_, _, _, rfl, rfl, h⟩
  obtain ⟨K, hK⟩ : ∃ K, N = 2 * K := ⟨N / 2, by omega⟩
  have n0 : nI (N % 2) = 0 := by rw [show N % 2 = 0 by omega]; rfl
  have n1 : ¬ nI (N % 2) = (1 : Int32) := by rw [show N % 2 = 0 by omega]; decide
  rw [if_pos n0, if_neg n1]
  obtain ⟨g0, e0, hQ0, hp0⟩ := q_take21 hQ
  obtain ⟨r1, ea, hla, haE⟩ := q_aside2 r
  rw [e0, ea, q_b1, q_b1]
  have H : ∃ x y, nt_it (fun z => bNt_judge_58 nr ln (nI c) z.1 z.2) nt_fu ((0 : Int32), g0) = some x ∧ nt_it (fun z => bMo_judge_45 (nI c) z.1 z.2.1 z.2.2) nt_fu ((-1 : Int32), (0 : Int32), r1) = some y ∧ nt_rE r1 y.2 ∧ ∃ gi, nt_pE 21 g gi ∧ ((x = .inr gi ∧ y.1 = -1) ∨ ∃ i, i < K ∧ x = .inl (nI (2 * i), gi) ∧ y.1 = nI i) := by
    refine q_both3 (fun i s t => ∃ gi ri, s = (nI (2 * i), gi) ∧ t = ((-1 : Int32), nI i, ri) ∧ nt_pE 21 g gi ∧ nt_rE r1 ri ∧ nt_Q 21 n m nr ln gi ri) _ K (by omega) ⟨g0, r1, rfl, rfl, hp0, rE_rf r1, Q_aE haE hQ0⟩ ?_ ?_
    · intro i s t hi hI
      obtain ⟨gi, ri, rfl, rfl, hpE, hrE, hQi⟩ := hI
      have g45 : gi 45 c = nI N := by rw [pE_row (Or.inr rfl) hpE (k := 45) (by omega)]; exact f6
      have r23 : ri 23 c = nI N := by rw [rE_row hrE (k := 23) (by omega), haE 23 c (by omega) (by omega) (by omega) (by omega)]; exact f7
      have h46 : ∀ j, j < N → gi 46 (40 * c + j) = ri 24 (40 * c + j) := fun j hj => by
        rw [pE_row (Or.inr rfl) hpE (k := 46) (by omega), rE_row hrE (k := 24) (by omega), haE 24 _ (by omega) (by omega) (by omega) (by omega)]
        exact f8 j hj
      have hd : nI N / (2 : Int32) = nI K := by
        have := pk_div (a := N) (d := 2) (by omega) (by omega) (by omega)
        rw [show N / 2 = K by omega] at this
        exact this
      have ex : ∀ q, bMo_judge_45 (nI c) (nI i) q ri = some (.inr (nI i, ri)) := by
        intro q
        unfold bMo_judge_45
        simp only [hin, hcl, q_gt, z]
        by_cases e : ri 23 c / (2 : Int32) ≤ q
        · rw [if_pos e]
        · rw [if_neg e, if_neg (nI_m1 (by omega))]
      have ex2 : ∀ q r2, bMo_judge_45 (nI c) (nI i) q r2 = some (.inr (nI i, r2)) := by
        intro q r2
        unfold bMo_judge_45
        simp only [hin, hcl, q_gt, z]
        by_cases e : r2 23 c / (2 : Int32) ≤ q
        · rw [if_pos e]
        · rw [if_neg e, if_neg (nI_m1 (by omega))]
      have en : (nI (2 * i) + (2 : Int32)) = nI (2 * (i + 1)) := by rw [show (2 : Int32) = nI 2 from rfl, nI_add]; rfl
      show (∃ s' t', bNt_judge_58 nr ln (nI c) (nI (2 * i)) gi = some (.inl s') ∧ bMo_judge_45 (nI c) (-1) (nI i) ri = some (.inl t') ∧ _) ∨ ∃ x t' y, bNt_judge_58 nr ln (nI c) (nI (2 * i)) gi = some (.inr x) ∧ bMo_judge_45 (nI c) (-1) (nI i) ri = some (.inl t') ∧ _
      unfold bNt_judge_58
      have eM : bMo_judge_45 (nI c) (-1) (nI i) ri = (nt_b1 (fMo_isHouse (ri 24 (40 * c + 2 * i)) ri) fun r17 => (if r17 = 0 then (jMo_judge_122 (nI c) (-1) (nI i) (ri 24 (40 * c + 2 * i)) (ri 24 (40 * c + 2 * i + 1)) ri) else (nt_b1 (fMo_isStory (ri 24 (40 * c + 2 * i + 1)) ri) fun r24 => (if r24 = 0 then (jMo_judge_122 (nI c) (-1) (nI i) (ri 24 (40 * c + 2 * i)) (ri 24 (40 * c + 2 * i + 1)) ri) else (nt_b2 (fMo_teller (ri 24 (40 * c + 2 * i)) (ri 24 (40 * c + 2 * i + 1)) ri) fun r26 g27 => jMo_judge_123 (nI c) (-1) (nI i) (ri 24 (40 * c + 2 * i)) (ri 24 (40 * c + 2 * i + 1)) r26 g27))))) := by
        unfold bMo_judge_45
        have ix : ((40 : Int32) * nI c) + ((2 : Int32) * nI i) = nI (40 * c + 2 * i) := by rw [show (2 : Int32) = nI 2 from rfl, pk_mul, (q_ix40 c (2 * i)).2]
        simp only [hin, hcl, q_gt, z, r23, hd, ix, nI_1, q_lt, q_in (show 40 * c + 2 * i < 160 by omega) (show 160 < 2 ^ 31 by omega), q_in (show 40 * c + 2 * i + 1 < 160 by omega) (show 160 < 2 ^ 31 by omega), nI_clamp (show 40 * c + 2 * i < 2 ^ 31 by omega), nI_clamp (show 40 * c + 2 * i + 1 < 2 ^ 31 by omega)]
        rw [if_neg (nI_ge hi (by omega))]
        exact if_pos trivial
      rw [eM]
      unfold fSs_at
      simp only [hin, hcl, q_gt, g45, nI_1, (q_ix40 c (2 * i)).1, (q_ix40 c (2 * i + 1)).1, q_in (show 40 * c + 2 * i < 160 by omega) (show 160 < 2 ^ 31 by omega), q_in (show 40 * c + (2 * i + 1) < 160 by omega) (show 160 < 2 ^ 31 by omega), nI_clamp (show 40 * c + 2 * i < 2 ^ 31 by omega), nI_clamp (show 40 * c + (2 * i + 1) < 2 ^ 31 by omega), q_b1]
      rw [if_neg (nI_ge (show 2 * i + 1 < N by omega) (by omega)), h46 (2 * i) (by omega), h46 (2 * i + 1) (by omega), show 40 * c + 2 * i + 1 = 40 * c + (2 * i + 1) by omega]
      generalize ri 24 (40 * c + 2 * i) = A
      generalize ri 24 (40 * c + (2 * i + 1)) = B
      rw [(q_house A gi ri).1, (q_house A gi ri).2, q_b1, q_b1]
      unfold jMo_judge_122
      have stop : jMo_judge_123 (nI c) (-1) (nI i) A B (-1) ri = some (.inl (nI i, nI (i + 1), ri)) := by
        unfold jMo_judge_123
        rw [if_pos rfl, q_lt, nI_1]
      have fin : ∀ ga ra, nt_pE 21 g ga → nt_rE r1 ra → nt_rE r1 (nI i, ra).2 ∧ ∃ gi_1, nt_pE 21 g gi_1 ∧ (((.inl (nI (2 * i), ga) : (Int32 × nt_T) ⊕ nt_T) = .inr gi_1 ∧ (nI i, ra).1 = -1) ∨ ∃ i_1, i_1 < K ∧ (.inl (nI (2 * i), ga) : (Int32 × nt_T) ⊕ nt_T) = .inl (nI (2 * i_1), gi_1) ∧ (nI i, ra).1 = nI i_1) :=
        fun ga ra ha hb => ⟨hb, ga, ha, Or.inr ⟨i, hi, rfl, rfl⟩⟩
      cases hA : nt_in A 4
      · rw [if_pos (show bI false = 0 from rfl), if_pos (show bI false = 0 from rfl), stop]
        exact Or.inr ⟨_, _, _, rfl, rfl, ex2 _ _, fin gi ri hpE hrE⟩
      rw [if_neg (show ¬ bI true = 0 by decide), if_neg (show ¬ bI true = 0 by decide), qS_has hQi.1, qS_is hQi.1, q_b1, q_b1]
      cases hB : nt_in B m
      · rw [if_pos (show bI false = 0 from rfl), if_pos (show bI false = 0 from rfl), stop]
        exact Or.inr ⟨_, _, _, rfl, rfl, ex2 _ _, fin gi ri hpE hrE⟩
      rw [if_neg (show ¬ bI true = 0 by decide), if_neg (show ¬ bI true = 0 by decide)]
      obtain ⟨s, hs, rfl⟩ := q_in_of (by omega) hB
      rcases q_spend (Or.inr rfl) hQi A hs with ⟨g1, r2, -, e1, hcE, e2, hE⟩ | ⟨p, v, g1, r2, r3, -, hp, -, hv, e1, e2, hE, -, e3, hQ2, hpE2, hrE2⟩
      · rw [e1, e2, q_b2, q_b2, if_pos rfl]
        unfold jMo_judge_123
        rw [if_pos rfl, q_lt, nI_1]
        exact Or.inr ⟨_, _, _, rfl, rfl, ex2 _ _, fin g1 r2 (pE_tr hpE (cE_p hcE)) (rE_tr hrE (uE_r hE))⟩
      · rw [e1, e2, q_b2, q_b2, if_neg hv]
        unfold jMo_judge_123
        rw [if_neg (nI_m1 (by omega)), e3, q_b2, q_lt, q_lt, nI_1, en]
        exact Or.inl ⟨_, _, rfl, rfl, g1, r3, rfl, rfl, pE_tr hpE hpE2, rE_tr hrE hrE2, hQ2⟩
    · intro s t hI
      obtain ⟨gi, ri, rfl, rfl, hpE, hrE, hQi⟩ := hI
      have g45 : gi 45 c = nI N := by rw [pE_row (Or.inr rfl) hpE (k := 45) (by omega)]; exact f6
      have r23 : ri 23 c = nI N := by rw [rE_row hrE (k := 23) (by omega), haE 23 c (by omega) (by omega) (by omega) (by omega)]; exact f7
      have hd : nI N / (2 : Int32) = nI K := by
        have := pk_div (a := N) (d := 2) (by omega) (by omega) (by omega)
        rw [show N / 2 = K by omega] at this
        exact this
      refine ⟨.inr gi, ((-1 : Int32), ri), ?_, ?_, hrE, gi, hpE, Or.inl ⟨rfl, rfl⟩⟩
      · show bNt_judge_58 nr ln (nI c) (nI (2 * K)) gi = _
        unfold bNt_judge_58
        simp only [hin, hcl, q_gt, g45, nI_1]
        rw [if_pos (nI_le (by omega) (by omega))]
      · show bMo_judge_45 (nI c) (-1) (nI K) ri = _
        unfold bMo_judge_45
        simp only [hin, hcl, q_gt, z, r23, hd]
        rw [if_pos (nI_le (Nat.le_refl K) (by omega))]
  obtain ⟨x, ⟨v, r2⟩, e1, e2, hrE, gi, hpE, hxy⟩ := H
  obtain ⟨r3, e3, hRel⟩ := Rel_back hn hQ hO hla haE hpE hrE
  rw [e1, e2, q_b1, q_b1]
  unfold jMo_judge_153
  dsimp only
  have e3 : fMo_laysBack r2 = some r3 := e3
  rw [e3, q_b1]
  rcases hxy with ⟨rfl, hv⟩ | ⟨i, hi, rfl, hv⟩
  · have hv : v = -1 := hv
    subst hv
    exact ⟨_, _, _, rfl, rfl, hRel⟩
  · have hv : v = nI i := hv
    subst hv
    have hd : nI (2 * i) / (2 : Int32) = nI i := by
      have := pk_div (a := 2 * i) (d := 2) (by omega) (by omega) (by omega)
      rw [show 2 * i / 2 = i by omega] at this
      exact this
    refine ⟨_, _, _, ?_, rfl, hRel⟩
    dsimp only
    rw [hd]
