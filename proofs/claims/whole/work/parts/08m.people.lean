/-! ===== calls that change people and stories ===== -/
theorem q_part {m : Nat} {g r : nt_T} (hS : nt_qS m g r) {s : Nat} (hs : s < m) : ∃ g' r', fSh_part (nI s) g = some g' ∧ fMo_parts (nI s) r = some r' ∧ nt_qS m g' r' ∧ (∀ k, k ≠ 5 → g' k = g k) ∧ ∀ k, k ≠ 7 → r' k = r k := by
  obtain ⟨hm, hg4, hr11, hq⟩ := id hS
  obtain ⟨-, -, -, e5, -, -, -, e8⟩ := hq s hs
  have hin := q_in (show s < 8 by omega) (by omega)
  have hcl := nI_clamp (show s < 2 ^ 31 by omega)
  unfold fSh_part fMo_parts jMo_parts_22
  rw [q_gd hin, q_gd hin, q_gd hin, q_gd hin, hcl, e5, q_lt, qS_has hS, q_b1, q_lt]
  rcases e8 with e | ⟨t, ht, et⟩
  · have hno : nt_in (r 7 s) m = false := by
      cases hx : nt_in (r 7 s) m with
      | false => rfl
      | true =>
        obtain ⟨k, hk, ek⟩ := q_in_of (by omega) hx
        rw [e] at ek
        exact absurd ek.symm (nI_m1 (by omega))
    rw [hno, if_pos (show bI false = 0 from rfl), if_pos e]
    refine ⟨_, _, rfl, rfl, ⟨hm, hg4, ?_, fun q hq2 => ?_⟩, fun _ _ => rfl, fun k hk => st_row _ _ _ hk⟩
    · rw [st_slot _ _ (by omega)]; exact hr11
    · obtain ⟨a1, a2, a3, a4, a5, a6, a7, a8⟩ := hq q hq2
      rw [st_row _ _ _ (show (4 : Nat) ≠ 7 by omega), st_row _ _ _ (show (5 : Nat) ≠ 7 by omega), st_row _ _ _ (show (6 : Nat) ≠ 7 by omega)]
      have e7 : nt_st r 7 s (-1) 7 q = r 7 q := by
        by_cases c : q = s
        · subst c; rw [st_eq, e]
        · rw [st_slot _ _ (Or.inr c)]
      rw [e7]
      exact ⟨a1, a2, a3, a4, a5, a6, a7, a8⟩
  · have hint := q_in (show t < 8 by omega) (by omega)
    have hclt := nI_clamp (show t < 2 ^ 31 by omega)
    rw [et, q_in ht (by omega), if_neg (show ¬ bI true = 0 by decide), if_neg (nI_m1 (by omega)), q_gd hint, q_gd hin, q_gd hint, hclt]
    simp only [q_lt, hin, q_gt]
    refine ⟨_, _, rfl, rfl, ⟨hm, ?_, ?_, fun q hq2 => ?_⟩, fun k hk => by rw [st_row _ _ _ hk, st_row _ _ _ hk], fun k hk => by rw [st_row _ _ _ hk, st_row _ _ _ hk]⟩
    · rw [st_slot _ _ (by omega), st_slot _ _ (by omega)]; exact hg4
    · rw [st_slot _ _ (by omega), st_slot _ _ (by omega)]; exact hr11
    · obtain ⟨a1, a2, a3, a4, a5, a6, a7, a8⟩ := hq q hq2
      rw [st_row _ _ _ (show (4 : Nat) ≠ 7 by omega), st_row _ _ _ (show (5 : Nat) ≠ 7 by omega), st_row _ _ _ (show (6 : Nat) ≠ 7 by omega), st_row _ _ _ (show (4 : Nat) ≠ 7 by omega), st_row _ _ _ (show (5 : Nat) ≠ 7 by omega), st_row _ _ _ (show (6 : Nat) ≠ 7 by omega), st_row _ _ _ (show (2 : Nat) ≠ 5 by omega), st_row _ _ _ (show (3 : Nat) ≠ 5 by omega), st_row _ _ _ (show (4 : Nat) ≠ 5 by omega), st_row _ _ _ (show (2 : Nat) ≠ 5 by omega), st_row _ _ _ (show (3 : Nat) ≠ 5 by omega), st_row _ _ _ (show (4 : Nat) ≠ 5 by omega)]
      refine ⟨a1, a2, a3, ?_, a5, a6, a7, ?_⟩
      · rw [st_app, st_app, st_app, st_app, a4]
        by_cases c1 : q = s <;> by_cases c2 : q = t <;> simp [c1, c2]
      · rw [st_app, st_app]
        by_cases c1 : q = s
        · left; simp [c1]
        · by_cases c2 : q = t
          · left; simp [c2]
          · simp [c1, c2]; exact a8
theorem Rel_tw {nr : Nat} {ln : Nat → Nat} {g r g' r' : nt_T} {m n : Nat} (hn : n ≤ 8) (hQ : nt_Q 14 n m nr ln g r) (hO : nt_O n nr g r) (hS : nt_qS m g' r') (hg : ∀ k, k ≠ 5 → g' k = g k) (hr : ∀ k, k ≠ 7 → r' k = r k) : nt_Rel nr ln g' r' :=
  ⟨m, n, hn, ⟨hS, qT_F (by rw [hg 6 (by omega)]) (fun k hk => hg k (by omega)) (hr 1 (by omega)) (hr 2 (by omega)) (by rw [hr 0 (by omega)]) (by rw [hr 0 (by omega)]) hQ.2.1, qP_F (fun k h1 h2 => hg k (by omega)) (fun k h1 h2 => hr k (by omega)) (fun j hj => by rw [hr 0 (by omega)]) hQ.2.2⟩, qR_F (by rw [hg 10 (by omega)]) (hg 11 (by omega)) (by rw [hr 0 (by omega)]) (hr 3 (by omega)) hO.1, qI_F (by rw [hg 0 (by omega)]) (fun k h1 h2 => hg k (by omega)) (fun j h1 h2 => by rw [hr 0 (by omega)]) (fun k h1 h2 => hr k (by omega)) hO.2.1, qH_F (fun k h1 h2 => hg k (by omega)) (fun k h1 h2 => hr k (by omega)) hO.2.2⟩
theorem st_twin {nr : Nat} {ln : Nat → Nat} {g r : nt_T} (h : nt_Rel nr ln g r) (x1 x2 : Int32) : ∃ (v : Int32) (ga : nt_T) (gb : nt_T), fNt_twin x1 x2 g = some (v, ga) ∧ fMo_twin x1 x2 r = some (v, gb) ∧ nt_Rel nr ln ga gb := by
  obtain ⟨m, n, hn, hQ, hO⟩ := id h
  have hm := hQ.1.1
  unfold fNt_twin fMo_twin
  rw [qS_has hQ.1, qS_is hQ.1, q_b1, q_b1]
  cases h1 : nt_in x1 m
  · exact ⟨_, _, _, if_pos rfl, if_pos rfl, h⟩
  · rw [if_neg (show ¬ bI true = 0 by decide), if_neg (show ¬ bI true = 0 by decide), qS_has hQ.1, qS_is hQ.1, q_b1, q_b1]
    cases h2 : nt_in x2 m
    · exact ⟨_, _, _, if_pos rfl, if_pos rfl, h⟩
    · rw [if_neg (show ¬ bI true = 0 by decide), if_neg (show ¬ bI true = 0 by decide)]
      obtain ⟨s, hs, rfl⟩ := q_in_of (by omega) h1
      obtain ⟨t, ht, rfl⟩ := q_in_of (by omega) h2
      by_cases hst : nI s = nI t
      · rw [if_pos hst, if_pos hst]
        exact ⟨_, _, _, rfl, rfl, h⟩
      · rw [if_neg hst, if_neg hst]
        have hst : ¬ s = t := fun e => hst (by rw [e])
        obtain ⟨g1, r1, e1, e2, hS1, hg1, hr1⟩ := q_part hQ.1 hs
        obtain ⟨g2, r2, e3, e4, hS2, hg2, hr2⟩ := q_part hS1 ht
        unfold fSh_join
        rw [e1, q_b1, e3, q_b1, e2, q_b1, e4, q_b1, q_gd (q_in (show s < 8 by omega) (by omega)), q_gd (q_in (show s < 8 by omega) (by omega)), nI_clamp (show s < 2 ^ 31 by omega), nI_clamp (show t < 2 ^ 31 by omega)]
        simp only [q_lt, q_b1, q_in (show t < 8 by omega) (show 8 < 2 ^ 31 by omega), q_gt]
        refine ⟨_, _, _, rfl, rfl, Rel_tw hn hQ hO ?_ (fun k hk => by rw [st_row _ _ _ hk, st_row _ _ _ hk, hg2 k hk, hg1 k hk]) (fun k hk => by rw [st_row _ _ _ hk, st_row _ _ _ hk, hr2 k hk, hr1 k hk])⟩
        obtain ⟨-, hg4, hr11, hq⟩ := hS2
        refine ⟨hm, ?_, ?_, fun q hq2 => ?_⟩
        · rw [st_slot _ _ (by omega), st_slot _ _ (by omega)]; exact hg4
        · rw [st_slot _ _ (by omega), st_slot _ _ (by omega)]; exact hr11
        · obtain ⟨a1, a2, a3, a4, a5, a6, a7, a8⟩ := hq q hq2
          rw [st_row _ _ _ (show (4 : Nat) ≠ 7 by omega), st_row _ _ _ (show (5 : Nat) ≠ 7 by omega), st_row _ _ _ (show (6 : Nat) ≠ 7 by omega), st_row _ _ _ (show (4 : Nat) ≠ 7 by omega), st_row _ _ _ (show (5 : Nat) ≠ 7 by omega), st_row _ _ _ (show (6 : Nat) ≠ 7 by omega), st_row _ _ _ (show (2 : Nat) ≠ 5 by omega), st_row _ _ _ (show (3 : Nat) ≠ 5 by omega), st_row _ _ _ (show (4 : Nat) ≠ 5 by omega), st_row _ _ _ (show (2 : Nat) ≠ 5 by omega), st_row _ _ _ (show (3 : Nat) ≠ 5 by omega), st_row _ _ _ (show (4 : Nat) ≠ 5 by omega)]
          refine ⟨a1, a2, a3, ?_, a5, a6, a7, ?_⟩
          · rw [st_app, st_app, st_app, st_app, a4]
            simp
          · rw [st_app, st_app]
            by_cases c2 : q = t
            · right; exact ⟨s, hs, by simp [c2]⟩
            · by_cases c1 : q = s
              · right; exact ⟨t, ht, by simp [c1, hst]⟩
              · simp [c1, c2]; exact a8
/-- one more comes -/
theorem q_come {nr : Nat} {ln : Nat → Nat} {g r : nt_T} (h : nt_Rel nr ln g r) (x1 x2 : Int32) : ∃ (v : Int32) (ga : nt_T) (gb : nt_T), fPp_come 14 x1 x2 g = some (v, ga) ∧ fMo_person x1 x2 r = some (v, gb) ∧ nt_Rel nr ln ga gb ∧ (∀ k, 28 ≤ k → ga k = g k) ∧ ∀ k, 13 ≤ k → gb k = r k := by
  obtain ⟨m, n, hn, hQ, hO⟩ := id h
  have hP := hQ.2.2
  have h7 : g 14 7 = nI n := hP.2.1
  have h17 : r 0 17 = nI n := hP.2.2.1
  unfold fPp_come fMo_person
  rw [q_below (y := (400 : Int32)) (n := 400) (by omega) rfl, q_moin (x := x1) (n := 400) (by omega) (by decide), q_b1, q_b1]
  cases h1 : nt_in x1 400
  · exact ⟨_, _, _, if_pos rfl, if_pos rfl, h, fun _ _ => rfl, fun _ _ => rfl⟩
  · rw [if_neg (show ¬ bI true = 0 by decide), if_neg (show ¬ bI true = 0 by decide), q_below (y := (256 : Int32)) (n := 256) (by omega) rfl, q_moin (x := x2) (n := 256) (by omega) (by decide), q_b1, q_b1]
    cases h2 : nt_in x2 256
    · exact ⟨_, _, _, if_pos rfl, if_pos rfl, h, fun _ _ => rfl, fun _ _ => rfl⟩
    · rw [if_neg (show ¬ bI true = 0 by decide), if_neg (show ¬ bI true = 0 by decide)]
      obtain ⟨a, ha, rfl⟩ := q_in_of (by omega) h1
      obtain ⟨t, ht, rfl⟩ := q_in_of (by omega) h2
      by_cases h8 : n < 8
      · have c1 : g 14 7 < (8 : Int32) := by rw [h7]; exact (nI_ltI (a := n) (b := 8) (by omega) (by omega)).mpr h8
        have c9 : g 14 7 < (9 : Int32) := by rw [h7]; exact (nI_ltI (a := n) (b := 9) (by omega) (by omega)).mpr (by omega)
        have c2 : ¬ r 0 17 = (8 : Int32) := fun e => by
          rw [h17] at e
          have := (nI_eq (a := n) (b := 8) (by omega) (by omega)).mp e
          omega
        have z : decide (¬ (100 : Int32) = 0) = true := by decide
        have d1 : nI a / (100 : Int32) = nI (a / 100) := pk_div (a := a) (d := 100) (by omega) (by omega) (by omega)
        have d2 : nI a - nI a / (100 : Int32) * (100 : Int32) = nI (a % 100) := pk_rem (a := a) (d := 100) (by omega) (by omega) (by omega)
        have hin := q_in (show n < 9 by omega) (by omega)
        have hcl := nI_clamp (show n < 2 ^ 31 by omega)
        have e1 : nI (n + 1) - 1 = nI n := nI_pred n
        rw [if_pos c1, if_neg c2, q_gd z, q_gd z, q_gd z, d2, d1]
        have hC : fPp_sit 14 (nI (a / 100)) (nI (a % 100)) (nI t) g = some (nt_st (nt_st (nt_st (nt_st (nt_st g 15 n (nI (a / 100))) 16 n (nI (a % 100))) 17 n (nI t)) 18 n 0) 14 7 (nI (n + 1))) := by
          unfold fPp_sit
          rw [if_pos c9]
          simp [q_lt, st_app, h7, hin, hcl, q_gt, nI_1]
        have hM : (nt_gd (nt_in (r 0 17) 9) <| nt_lt (nt_st r 11 (Int32.toNatClampNeg (r 0 17)) (nI (a / 100))) fun g8 => nt_gd (decide (¬ (100 : Int32) = 0)) <| nt_gd (nt_in (g8 0 17) 9) <| nt_lt (nt_st g8 8 (Int32.toNatClampNeg (g8 0 17)) (nI (a % 100))) fun g11 => nt_gd (nt_in (g11 0 17) 9) <| nt_lt (nt_st g11 9 (Int32.toNatClampNeg (g11 0 17)) (nI t)) fun g13 => nt_gd (nt_in (g13 0 17) 9) <| nt_lt (nt_st g13 10 (Int32.toNatClampNeg (g13 0 17)) (0 : Int32)) fun g15 => nt_lt (nt_st g15 0 17 ((g15 0 17) + (1 : Int32))) fun g16 => some (((g16 0 17) - (1 : Int32)), g16)) = some (nI n, nt_st (nt_st (nt_st (nt_st (nt_st r 11 n (nI (a / 100))) 8 n (nI (a % 100))) 9 n (nI t)) 10 n 0) 0 17 (nI (n + 1))) := by
          simp [q_lt, st_app, h17, hin, hcl, q_gt, nI_1, z, e1]
        rw [hC, q_b1, hM, st_eq, e1]
        refine ⟨_, _, _, rfl, rfl, ⟨m, n + 1, by omega, ⟨qS_F (fun k h1 h2 => by (repeat rw [st_row _ _ _ (by omega)])) (fun k h1 h2 => by (repeat rw [st_row _ _ _ (by omega)])) (by simp [st_app]) hQ.1, qT_F (by simp [st_app]) (fun k hk => by (repeat rw [st_row _ _ _ (by omega)])) (by (repeat rw [st_row _ _ _ (by omega)])) (by (repeat rw [st_row _ _ _ (by omega)])) (by simp [st_app]) (by simp [st_app]) hQ.2.1, ?_⟩, qR_F (by simp [st_app]) (by (repeat rw [st_row _ _ _ (by omega)])) (by simp [st_app]) (by (repeat rw [st_row _ _ _ (by omega)])) hO.1, qI_mono (Nat.le_succ n) (Nat.le_refl nr) (qI_F (by simp [st_app]) (fun k h1 h2 => by (repeat rw [st_row _ _ _ (by omega)])) (fun j h1 h2 => by rw [st_slot _ _ (by omega), st_slot _ _ (by omega), st_slot _ _ (by omega), st_slot _ _ (by omega), st_slot _ _ (by omega)]) (fun k h1 h2 => by (repeat rw [st_row _ _ _ (by omega)])) hO.2.1), qH_F (fun k h1 h2 => by (repeat rw [st_row _ _ _ (by omega)])) (fun k h1 h2 => by (repeat rw [st_row _ _ _ (by omega)])) hO.2.2⟩, fun k hk => by (repeat rw [st_row _ _ _ (by omega)]), fun k hk => by (repeat rw [st_row _ _ _ (by omega)])⟩
        obtain ⟨p1, p2, p3, p4, p5, p6, p7⟩ := hP
        refine ⟨by omega, st_eq _ _ _ _, st_eq _ _ _ _, by simp [st_app]; exact p4, by simp [st_app]; exact p5, by simp [st_app]; exact p6, fun p hp => ?_⟩
        by_cases e : p = n
        · subst e
          unfold nt_q1
          simp only [st_app]
          simp
          refine ⟨Or.inr ⟨a / 100, by omega, rfl⟩, ⟨a % 100, by omega, rfl⟩, ⟨t, ht, rfl⟩, ⟨0, by omega, rfl⟩, fun s hs hb => ?_⟩
          rw [b_0] at hb
          cases hb
        · unfold nt_q1
          simp only [st_app]
          simp [e]
          have := p7 p (by omega)
          unfold nt_q1 at this
          simp at this
          exact this
      · obtain rfl : n = 8 := by omega
        have c1 : ¬ g 14 7 < (8 : Int32) := by rw [h7]; decide
        have c2 : r 0 17 = (8 : Int32) := h17
        rw [if_neg c1, if_pos c2]
        exact ⟨_, _, _, rfl, rfl, h, fun _ _ => rfl, fun _ _ => rfl⟩
theorem st_person {nr : Nat} {ln : Nat → Nat} {g r : nt_T} (h : nt_Rel nr ln g r) (x1 x2 : Int32) : ∃ (v : Int32) (ga : nt_T) (gb : nt_T), fNt_person x1 x2 g = some (v, ga) ∧ fMo_person x1 x2 r = some (v, gb) ∧ nt_Rel nr ln ga gb := by
  obtain ⟨v, ga, gb, e1, e2, h3, -, -⟩ := q_come h x1 x2
  unfold fNt_person
  rw [e1, q_b2]
  exact ⟨_, _, _, rfl, e2, h3⟩
