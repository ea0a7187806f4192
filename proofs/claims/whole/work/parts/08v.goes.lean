/-! ===== goesOn ===== -/
theorem knF_mono {tw : Nat → Int32} {x y : Int32} (h : ∀ i, i < 32 → bt x i = true → bt y i = true) : ∀ m, m ≤ 32 → ∀ i, i < 32 → bt (knF tw x m) i = true → bt (knF tw y m) i = true := by
  intro m
  induction m with
  | zero => exact fun _ => h
  | succ m ih =>
    intro hm i hi hb
    rw [knF] at hb ⊢
    by_cases c : bt x m = true ∧ tw m ≠ -1
    · rw [if_pos c, b_or, Bool.or_eq_true] at hb
      rw [if_pos ⟨h m (by omega) c.1, c.2⟩, b_or, Bool.or_eq_true]
      exact hb.imp (ih (by omega) i hi) id
    · rw [if_neg c] at hb
      have := ih (by omega) i hi hb
      by_cases c2 : bt y m = true ∧ tw m ≠ -1
      · rw [if_pos c2, b_or, this]; rfl
      · rw [if_neg c2]; exact this
/-- what was heard stays heard -/
def nt_gr (n : Nat) (r r' : nt_T) : Prop := r' 9 = r 9 ∧ r' 7 = r 7 ∧ ∀ p, p < n → r' 11 p = r 11 p ∧ ∀ i, i < 32 → bt (r 10 p) i = true → bt (r' 10 p) i = true
theorem gr_rf (n : Nat) (r : nt_T) : nt_gr n r r := ⟨rfl, rfl, fun _ _ => ⟨rfl, fun _ _ h => h⟩⟩
theorem gr_tr {n : Nat} {r r' r'' : nt_T} (h : nt_gr n r r') (h' : nt_gr n r' r'') : nt_gr n r r'' := ⟨h'.1.trans h.1, h'.2.1.trans h.2.1, fun p hp => ⟨(h'.2.2 p hp).1.trans (h.2.2 p hp).1, fun i hi q => (h'.2.2 p hp).2 i hi ((h.2.2 p hp).2 i hi q)⟩⟩
theorem gr_E {n : Nat} {r r' : nt_T} (h : nt_mE r r') : nt_gr n r r' := ⟨mE_row h (by omega), mE_row h (by omega), fun p _ => ⟨by rw [mE_row h (k := 11) (by omega)], fun i _ q => by rw [mE_row h (k := 10) (by omega)]; exact q⟩⟩
theorem gr_unB {n m : Nat} {r r' : nt_T} (h : nt_gr n r r') (hm : m ≤ 8) {x : Int32} {s : Nat} (hs : s < 8) (hu : unB r' n m x s = true) : unB r n m x s = true := by
  unfold unB at hu ⊢
  obtain ⟨p, hp, hb⟩ := cntB_ex (of_decide_eq_true hu)
  rw [Bool.and_eq_true, Bool.and_eq_true] at hb
  obtain ⟨h1, h2, h3⟩ := hb
  refine decide_eq_true (cntB_pos hp ?_)
  rw [Bool.and_eq_true, Bool.and_eq_true]
  refine ⟨?_, ?_, ?_⟩
  · unfold inH at h1 ⊢
    rw [← (h.2.2 p hp).1]; exact h1
  · rw [← h.1]; exact h2
  · unfold nOth at h3 ⊢
    refine decide_eq_true (cntB_0.mpr (fun q hq => ?_))
    have w := cntB_0.mp (of_decide_eq_true h3) q hq
    by_cases e : q = p
    · rw [decide_eq_true e]; rfl
    · rw [decide_eq_false e] at w ⊢
      cases hk : knH r m x s q with
      | false => rfl
      | true =>
        have : knH r' m x s q = true := by
          unfold knH inH kn at hk ⊢
          rw [Bool.and_eq_true] at hk ⊢
          rw [(h.2.2 q hq).1, h.2.1]
          exact ⟨hk.1, knF_mono (h.2.2 q hq).2 m (by omega) s (by omega) hk.2⟩
        rw [this] at w
        exact absurd w (by decide)
theorem mayB_unB {n m : Nat} {r : nt_T} {x : Int32} {s : Nat} (h : mayB r n m x s = true) : unB r n m x s = true := by
  unfold mayB at h
  obtain ⟨p, hp, hb⟩ := cntB_ex (of_decide_eq_true h)
  unfold MT at hb
  rw [Bool.and_eq_true, Bool.and_eq_true, Bool.and_eq_true, Bool.and_eq_true] at hb
  unfold unB
  refine decide_eq_true (cntB_pos hp ?_)
  rw [Bool.and_eq_true, Bool.and_eq_true]
  exact ⟨hb.1, hb.2.1, hb.2.2.2.1⟩
/-- the reference with the people laid aside, and as they were -/
def nt_La (r r' : nt_T) : Prop := nt_laid r r' ∧ (∀ k j, ¬ nt_mS k j → k < 10 ∨ 15 < k → ¬ (k = 0 ∧ (j = 18 ∨ j = 38)) → r' k j = r k j) ∧ (∀ p, p < 8 → r' 10 p = r 10 p ∧ r' 11 p = r 11 p) ∧ (∀ j, j < 64 → r' 12 j = r 12 j) ∧ r' 0 18 = r 0 18
theorem B_row {r r' : nt_T} (h : nt_La r r') {k : Nat} (hk : k ≠ 0 ∧ (k < 10 ∨ 15 < k)) : r' k = r k := funext (fun j => h.2.1 k j (by unfold nt_mS; omega) hk.2 (by omega))
theorem B_slot {r r' : nt_T} (h : nt_La r r') {j : Nat} (hj : j < 18 ∨ 38 < j ∧ j < 130) : r' 0 j = r 0 j := h.2.1 0 j (by unfold nt_mS; omega) (by omega) (by omega)
theorem B_gr {n : Nat} {r r' : nt_T} (hn : n ≤ 8) (h : nt_La r r') : nt_gr n r r' := ⟨B_row h (by omega), B_row h (by omega), fun p hp => ⟨(h.2.2.1 p (by omega)).2, fun i _ q => by rw [(h.2.2.1 p (by omega)).1]; exact q⟩⟩
theorem B_Q {n m nr : Nat} {ln : Nat → Nat} {g r g' r' : nt_T} (hn : n ≤ 8) (hc : nt_pE 21 g g') (hB : nt_La r r') (hQ : nt_Q 14 n m nr ln g r) : nt_Q 14 n m nr ln g' r' := by
  refine Q14_P (r := r') hc (mE_rf r') ⟨qS_F (fun k _ _ => rfl) (fun k h1 h2 => B_row hB (by omega)) (B_slot hB (by omega)) hQ.1, qT_F rfl (fun k _ => rfl) (B_row hB (by omega)) (B_row hB (by omega)) (B_slot hB (by omega)) (B_slot hB (by omega)) hQ.2.1, ?_⟩
  obtain ⟨p1, p2, p3, p4, p5, p6, p7⟩ := hQ.2.2
  refine ⟨p1, p2, by rw [B_slot hB (by omega)]; exact p3, by rw [hB.2.2.2.2]; exact p4, by rw [B_slot hB (by omega)]; exact p5, by rw [hB.2.2.2.2]; exact p6, fun p hp => ?_⟩
  have := p7 p hp
  unfold nt_q1 at this ⊢
  rw [(hB.2.2.1 p (by omega)).1, (hB.2.2.1 p (by omega)).2, B_row hB (k := 8) (by omega), B_row hB (k := 9) (by omega)]
  refine ⟨this.1, this.2.1, this.2.2.1, this.2.2.2.1, this.2.2.2.2.1, this.2.2.2.2.2.1, this.2.2.2.2.2.2.1, this.2.2.2.2.2.2.2.1, fun s hs hb => ?_⟩
  rw [hB.2.2.2.1 (8 * p + s) (by omega)]
  exact this.2.2.2.2.2.2.2.2 s hs hb
theorem B_O {n nr : Nat} {g r g' r' : nt_T} (hc : nt_pE 21 g g') (hB : nt_La r r') (hO : nt_O n nr g r) : nt_O n nr g' r' :=
  O_P (b := 21) (r := r') (Or.inr rfl) hc (rE_rf r') ⟨qR_F rfl rfl (B_slot hB (by omega)) (B_row hB (by omega)) hO.1, qI_F rfl (fun k _ _ => rfl) (fun j h1 h2 => B_slot hB (by omega)) (fun k h1 h2 => B_row hB (by omega)) hO.2.1, qH_F (fun k _ _ => rfl) (fun k h1 h2 => B_row hB (by omega)) hO.2.2⟩
theorem aE_B {r r' : nt_T} (ha : nt_laid r r') (h : nt_aE r r') : nt_La r r' :=
  ⟨ha, fun k j _ a b => h k j (by omega) (by omega) (by omega) (by omega), fun p _ => ⟨h 10 p (by omega) (by omega) (by omega) (by omega), h 11 p (by omega) (by omega) (by omega) (by omega)⟩, fun j _ => h 12 j (by omega) (by omega) (by omega) (by omega), h 0 18 (by omega) (by omega) (by omega) (by omega)⟩
theorem B_back {r r' r2 : nt_T} (hB : nt_La r r') (hm : nt_rE r' r2) : ∃ r3, fMo_laysBack r2 = some r3 ∧ nt_La r r3 := by
  have ha := laid_E hm hB.1
  obtain ⟨r3, e, l1, l2, l3, hE⟩ := q_laid r2
  refine ⟨r3, e, ?_, fun k j a b c => ?_, fun p hp => ?_, fun j hj => ?_, ?_⟩
  · have z : ∀ k, k = 13 ∨ k = 14 ∨ k = 15 → r3 k = r2 k := fun k hk => funext (fun j => hE k j (by omega) (by omega) (by omega) (by omega))
    unfold nt_laid at ha ⊢
    rw [z 13 (by omega), z 14 (by omega), z 15 (by omega), hE 0 38 (by omega) (by omega) (by omega) (by omega)]
    exact ha
  · rw [hE k j (by omega) (by omega) (by omega) (by omega), hm k j a (by omega) (by omega) (by omega) (by omega)]
    exact hB.2.1 k j a b c
  · rw [(l1 p hp).1, (l1 p hp).2]
    exact ha.1 p hp
  · rw [l2 j hj]
    exact ha.2.1 j hj
  · rw [l3]
    exact ha.2.2
theorem q_canAll {n m nr : Nat} {ln : Nat → Nat} {g r r0 : nt_T} (hn : n ≤ 8) (hQ : nt_Q 14 n m nr ln g r) (hB : nt_La r0 r) (h x : Int32) : ∃ ok g' r', fNt_canTellAll nr ln h x g = some (bI ok, g') ∧ fMo_canAll h x r = some (bI ok, r') ∧ nt_pE 21 g g' ∧ nt_La r0 r' ∧ (ok = true → ∀ s, s < m → bt x s = true → unB r n m h s = true) := by
  have hm8 := hQ.1.1
  obtain ⟨g0, e0, hQ0, hp0⟩ := q_take21 hQ
  unfold fNt_canTellAll fMo_canAll
  rw [e0, q_b1]
  have H : ∃ a b, nt_it (fun z => bNt_canTellAll_13 nr ln h x z.1 z.2) nt_fu ((0 : Int32), g0) = some a ∧ nt_it (fun z => bMo_canAll_5 h x z.1 z.2.1 z.2.2) nt_fu ((1 : Int32), (0 : Int32), r) = some b ∧ nt_rE r b.2 ∧ ∃ gi, nt_pE 21 g gi ∧ ((a = .inl gi ∧ b.1 = 0) ∨ (a = .inr gi ∧ b.1 = 1 ∧ ∀ s, s < m → bt x s = true → unB r n m h s = true)) := by
    refine q_both3 (fun i s t => ∃ gi ri, s = (nI i, gi) ∧ t = ((1 : Int32), nI i, ri) ∧ nt_pE 21 g gi ∧ nt_rE r ri ∧ nt_Q 21 n m nr ln gi ri ∧ nt_gr n r ri ∧ ∀ s, s < i → bt x s = true → unB r n m h s = true) _ m (by omega) ⟨g0, r, rfl, rfl, hp0, rE_rf r, hQ0, gr_rf n r, fun s hs => absurd hs (by omega)⟩ ?_ ?_
    · intro i s t hi hI
      obtain ⟨gi, ri, rfl, rfl, hpE, hrE, hQi, hgr, hun⟩ := hI
      have h4 : gi 1 4 = nI m := hQi.1.2.1
      have h11 : ri 0 11 = nI m := hQi.1.2.2.1
      show (∃ s' t', bNt_canTellAll_13 nr ln h x (nI i) gi = some (.inl s') ∧ bMo_canAll_5 h x 1 (nI i) ri = some (.inl t') ∧ _) ∨ ∃ a t' b, bNt_canTellAll_13 nr ln h x (nI i) gi = some (.inr a) ∧ bMo_canAll_5 h x 1 (nI i) ri = some (.inl t') ∧ _
      have ex : ∀ q r2, bMo_canAll_5 h x 0 q r2 = some (.inr (0, r2)) := by
        intro q r2
        unfold bMo_canAll_5
        by_cases e : r2 0 11 ≤ q
        · rw [if_pos e]
        · rw [if_neg e, if_pos rfl]
      have e1 : ¬ (1 : Int32) = 0 := by decide
      unfold bNt_canTellAll_13
      rw [show bMo_canAll_5 h x 1 (nI i) ri = (if ((x >>> (nI i &&& 31)) &&& (1 : Int32)) = (1 : Int32) then (nt_b2 (fMo_teller h (nI i) ri) fun r5 g6 => (if r5 = (-1 : Int32) then (jMo_canAll_48 h x 1 (nI i) r5 (0 : Int32) g6) else (jMo_canAll_48 h x 1 (nI i) r5 (1 : Int32) g6))) else (nt_lt (nI i + (1 : Int32)) fun v4 => some (.inl ((1 : Int32), v4, ri)))) by
        unfold bMo_canAll_5
        rw [h11, if_neg (nI_ge hi (by omega)), if_neg e1]]
      rw [h4, if_neg (nI_ge hi (by omega))]
      simp only [q_tst1 x (show i < 32 by omega)]
      by_cases hb : bt x i = true
      · rw [if_pos hb, if_pos hb]
        rcases q_spend (Or.inr rfl) hQi h hi with ⟨g1, r2, -, e1, hcE, e2, hE⟩ | ⟨p, v, g1, r2, r3, hmay, hp, -, hv, e1, e2, hE, -, e3, hQ2, hpE2, hrE2⟩
        · rw [e1, e2, q_b2, q_b2, if_pos rfl, if_pos rfl]
          unfold jMo_canAll_48
          rw [if_pos rfl, q_lt]
          exact Or.inr ⟨_, _, _, rfl, rfl, ex _ _, rE_tr hrE (uE_r hE), g1, pE_tr hpE (cE_p hcE), Or.inl ⟨rfl, rfl⟩⟩
        · rw [e1, e2, q_b2, q_b2, if_neg hv, if_neg (nI_m1 (by omega))]
          unfold jMo_canAll_48
          have e9 : ¬ (1 : Int32) = 0 := by decide
          rw [if_neg e9, e3, q_b2, q_lt, q_lt, nI_1]
          have hgr2 : nt_gr n ri r2 := gr_E (uE_m hE)
          have h17 : r2 0 17 = nI n := by rw [uE_m hE 0 17 (by unfold nt_mS; omega)]; exact hQi.2.2.2.2.1
          obtain ⟨r4, e4, f4, t4⟩ := q_tellM hQi.2.2.1 h17 h hp (show i < 8 by omega)
          rw [e3] at e4
          have e5 : r3 = r4 := (Prod.mk.inj (Option.some.inj e4)).2
          subst e5
          have hgr3 : nt_gr n r2 r3 := by
            refine ⟨funext (fun j => f4 9 j (by omega) (by omega)), funext (fun j => f4 7 j (by omega) (by omega)), fun q hq => ⟨f4 11 q (by omega) (by omega), fun j hj hbj => ?_⟩⟩
            rw [t4.1 q hq]
            by_cases c : (inH r2 h q && !decide (q = p)) = true
            · rw [if_pos c, b_or, hbj]; rfl
            · rw [if_neg c]; exact hbj
          refine Or.inl ⟨_, _, rfl, rfl, g1, r3, rfl, rfl, pE_tr hpE hpE2, rE_tr hrE hrE2, hQ2, gr_tr hgr (gr_tr hgr2 hgr3), fun s hs hbs => ?_⟩
          by_cases c : s = i
          · subst c
            exact gr_unB hgr hm8 (by omega) (mayB_unB hmay)
          · exact hun s (by omega) hbs
      · rw [if_neg hb, if_neg hb, q_lt, q_lt, nI_1]
        refine Or.inl ⟨_, _, rfl, rfl, gi, ri, rfl, rfl, hpE, hrE, hQi, hgr, fun s hs hbs => ?_⟩
        by_cases c : s = i
        · subst c
          exact absurd hbs hb
        · exact hun s (by omega) hbs
    · intro s t hI
      obtain ⟨gi, ri, rfl, rfl, hpE, hrE, hQi, hgr, hun⟩ := hI
      have h4 : gi 1 4 = nI m := hQi.1.2.1
      have h11 : ri 0 11 = nI m := hQi.1.2.2.1
      refine ⟨.inr gi, ((1 : Int32), ri), ?_, ?_, hrE, gi, hpE, Or.inr ⟨rfl, rfl, hun⟩⟩
      · show bNt_canTellAll_13 nr ln h x (nI m) gi = _
        unfold bNt_canTellAll_13
        rw [h4, if_pos (nI_le (Nat.le_refl m) (by omega))]
      · show bMo_canAll_5 h x 1 (nI m) ri = _
        unfold bMo_canAll_5
        rw [h11, if_pos (nI_le (Nat.le_refl m) (by omega))]
  obtain ⟨a, ⟨b1, b2⟩, e1, e2, hrE, gi, hpE, hab⟩ := H
  obtain ⟨r3, e3, hB3⟩ := B_back hB (show nt_rE r b2 from hrE)
  rw [e1, e2, q_b1, q_b1]
  unfold jMo_canAll_69
  dsimp only
  rw [e3, q_b1]
  rcases hab with ⟨rfl, hb⟩ | ⟨rfl, hb, hun⟩
  · have hb : b1 = bI false := hb
    subst hb
    exact ⟨false, gi, r3, rfl, q_gd (q_nb _) _, hpE, hB3, fun q => absurd q (by decide)⟩
  · have hb : b1 = bI true := hb
    subst hb
    exact ⟨true, gi, r3, rfl, q_gd (q_nb _) _, hpE, hB3, fun _ => hun⟩
