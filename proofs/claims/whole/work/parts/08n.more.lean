theorem Rel_Q {nr : Nat} {ln : Nat → Nat} {g r g' r' : nt_T} {m n : Nat} (hn : n ≤ 8) (hQ : nt_Q 14 n m nr ln g r) (hO : nt_O n nr g r) (hP : nt_qP 14 n g' r') (hg : ∀ k, k < 14 ∨ 20 ≤ k → g' k = g k) (hr : ∀ k, k < 8 ∨ 12 < k → r' k = r k) : nt_Rel nr ln g' r' :=
  ⟨m, n, hn, ⟨qS_F (fun k h1 h2 => hg k (by omega)) (fun k h1 h2 => hr k (by omega)) (by rw [hr 0 (by omega)]) hQ.1, qT_F (by rw [hg 6 (by omega)]) (fun k hk => hg k (by omega)) (hr 1 (by omega)) (hr 2 (by omega)) (by rw [hr 0 (by omega)]) (by rw [hr 0 (by omega)]) hQ.2.1, hP⟩, qR_F (by rw [hg 10 (by omega)]) (hg 11 (by omega)) (by rw [hr 0 (by omega)]) (hr 3 (by omega)) hO.1, qI_F (by rw [hg 0 (by omega)]) (fun k h1 h2 => hg k (by omega)) (fun j h1 h2 => by rw [hr 0 (by omega)]) (fun k h1 h2 => hr k (by omega)) hO.2.1, qH_F (fun k h1 h2 => hg k (by omega)) (fun k h1 h2 => hr k (by omega)) hO.2.2⟩
theorem q_put {k p : Nat} (hp : p < 9) (x : Int32) (g : nt_T) : fNt_put k (nI p) x g = some (g k p, nt_st g k p x) := by
  unfold fNt_put
  simp only [q_in hp (show 9 < 2 ^ 31 by omega), q_gt, q_lt, nI_clamp (show p < 2 ^ 31 by omega)]
theorem st_set {nr : Nat} {ln : Nat → Nat} {g r : nt_T} (h : nt_Rel nr ln g r) (x1 x2 x3 : Int32) : ∃ (v : Int32) (ga : nt_T) (gb : nt_T), fNt_set x1 x2 x3 g = some (v, ga) ∧ fMo_set x1 x2 x3 r = some (v, gb) ∧ nt_Rel nr ln ga gb := by
  obtain ⟨m, n, hn, hQ, hO⟩ := id h
  have hP := hQ.2.2
  unfold fNt_set fMo_set
  rw [(q_has hP x2).1, (q_has hP x2).2, q_b1, q_b1, q_moin (x := x1) (n := 3) (by omega) (by decide), q_b1]
  cases h2 : nt_in x2 n
  · rw [if_pos (show bI false = 0 from rfl), if_pos (show bI false = 0 from rfl)]
    cases nt_in x1 3
    · exact ⟨_, _, _, rfl, if_pos rfl, h⟩
    · rw [if_neg (show ¬ bI true = 0 by decide)]
      exact ⟨_, _, _, rfl, rfl, h⟩
  · obtain ⟨p, hp, rfl⟩ := q_in_of (by omega) h2
    rw [if_neg (show ¬ bI true = 0 by decide), if_neg (show ¬ bI true = 0 by decide)]
    have hin := q_in (show p < 9 by omega) (show 9 < 2 ^ 31 by omega)
    have hcl := nI_clamp (show p < 2 ^ 31 by omega)
    obtain ⟨p1, p2, p3, p4, p5, p6, p7⟩ := id hP
    obtain ⟨a1, a2, a3, a4, a5, a6, a7, a8, a9⟩ := id (p7 p hp)
    have a1 : g 15 p = r 11 p := a1
    have a2 : g 16 p = r 8 p := a2
    have a3 : g 17 p = r 9 p := a3
    cases h3 : nt_in x1 3
    · have hne : ∀ k, k < 3 → ¬ x1 = nI k := fun k hk e => by rw [e, q_in hk (by omega)] at h3; cases h3
      rw [if_pos (show bI false = 0 from rfl), if_neg (show ¬ x1 = (0 : Int32) from hne 0 (by omega)), if_neg (show ¬ x1 = (1 : Int32) from hne 1 (by omega)), if_neg (show ¬ x1 = (2 : Int32) from hne 2 (by omega))]
      exact ⟨_, _, _, rfl, rfl, h⟩
    · obtain ⟨k, hk, rfl⟩ := q_in_of (by omega) h3
      rw [if_neg (show ¬ bI true = 0 by decide)]
      rcases (show k = 0 ∨ k = 1 ∨ k = 2 by omega) with rfl | rfl | rfl
      · rw [if_pos (show nI 0 = (0 : Int32) from rfl), if_pos (show nI 0 = (0 : Int32) from rfl), (q_house x3 g r).1, q_b1]
        unfold jMo_set_47 jMo_set_89
        rw [q_moin (x := x3) (n := 4) (by omega) (by decide), q_b1]
        cases h4 : nt_in x3 4
        · exact ⟨_, _, _, if_pos rfl, if_pos rfl, h⟩
        · obtain ⟨w, hw, rfl⟩ := q_in_of (by omega) h4
          rw [if_neg (show ¬ bI true = 0 by decide), if_neg (show ¬ bI true = 0 by decide), if_pos (show nI 0 = (0 : Int32) from rfl), if_pos (show nI 0 = (0 : Int32) from rfl), q_put (show p < 9 by omega), q_b2, hin, q_gt, q_gt, q_lt, hcl, a1]
          refine ⟨_, _, _, rfl, rfl, Rel_Q hn hQ hO ⟨p1, by rw [st_slot _ _ (by omega)]; exact p2, by rw [st_slot _ _ (by omega)]; exact p3, by rw [st_slot _ _ (by omega), st_slot _ _ (by omega)]; exact p4, by rw [st_slot _ _ (by omega), st_slot _ _ (by omega)]; exact p5, by rw [st_slot _ _ (by omega)]; exact p6, fun q hq => ?_⟩ (fun k hk => st_row _ _ _ (by omega)) (fun k hk => st_row _ _ _ (by omega))⟩
          have := p7 q hq
          unfold nt_q1 at this ⊢
          simp only [st_app]
          by_cases e : q = p
          · subst e
            simp at this ⊢
            exact ⟨this.2.1, this.2.2.1, this.2.2.2.1, Or.inr ⟨w, hw, rfl⟩, this.2.2.2.2.2⟩
          · simp [e] at this ⊢
            exact this
      · rw [if_neg (show ¬ nI 1 = (0 : Int32) by decide), if_neg (show ¬ nI 1 = (0 : Int32) by decide), if_pos (show nI 1 = (1 : Int32) from rfl), if_pos (show nI 1 = (1 : Int32) from rfl), q_below (y := (100 : Int32)) (n := 100) (by omega) rfl, q_b1]
        unfold jMo_set_47 jMo_set_89
        rw [q_moin (x := x3) (n := 100) (by omega) (by decide), q_b1]
        cases h4 : nt_in x3 100
        · exact ⟨_, _, _, if_pos rfl, if_pos rfl, h⟩
        · obtain ⟨w, hw, rfl⟩ := q_in_of (by omega) h4
          rw [if_neg (show ¬ bI true = 0 by decide), if_neg (show ¬ bI true = 0 by decide), if_neg (show ¬ nI 1 = (0 : Int32) by decide), if_pos (show nI 1 = (1 : Int32) from rfl), if_neg (show ¬ nI 1 = (0 : Int32) by decide), if_pos (show nI 1 = (1 : Int32) from rfl), q_put (show p < 9 by omega), q_b2, hin, q_gt, q_gt, q_lt, hcl, a2]
          refine ⟨_, _, _, rfl, rfl, Rel_Q hn hQ hO ⟨p1, by rw [st_slot _ _ (by omega)]; exact p2, by rw [st_slot _ _ (by omega)]; exact p3, by rw [st_slot _ _ (by omega), st_slot _ _ (by omega)]; exact p4, by rw [st_slot _ _ (by omega), st_slot _ _ (by omega)]; exact p5, by rw [st_slot _ _ (by omega)]; exact p6, fun q hq => ?_⟩ (fun k hk => st_row _ _ _ (by omega)) (fun k hk => st_row _ _ _ (by omega))⟩
          have := p7 q hq
          unfold nt_q1 at this ⊢
          simp only [st_app]
          by_cases e : q = p
          · subst e
            simp at this ⊢
            exact ⟨this.1, this.2.2.1, this.2.2.2.1, this.2.2.2.2.1, ⟨w, hw, rfl⟩, this.2.2.2.2.2.2⟩
          · simp [e] at this ⊢
            exact this
      · rw [if_neg (show ¬ nI 2 = (0 : Int32) by decide), if_neg (show ¬ nI 2 = (0 : Int32) by decide), if_neg (show ¬ nI 2 = (1 : Int32) by decide), if_neg (show ¬ nI 2 = (1 : Int32) by decide), if_pos (show nI 2 = (2 : Int32) from rfl), q_below (y := (256 : Int32)) (n := 256) (by omega) rfl, q_b1]
        unfold jMo_set_47 jMo_set_89
        rw [q_moin (x := x3) (n := 256) (by omega) (by decide), q_b1]
        cases h4 : nt_in x3 256
        · exact ⟨_, _, _, if_pos rfl, if_pos rfl, h⟩
        · obtain ⟨w, hw, rfl⟩ := q_in_of (by omega) h4
          rw [if_neg (show ¬ bI true = 0 by decide), if_neg (show ¬ bI true = 0 by decide), if_neg (show ¬ nI 2 = (0 : Int32) by decide), if_neg (show ¬ nI 2 = (1 : Int32) by decide), if_neg (show ¬ nI 2 = (0 : Int32) by decide), if_neg (show ¬ nI 2 = (1 : Int32) by decide), q_put (show p < 9 by omega), q_b2, hin, q_gt, q_gt, q_lt, hcl, a3]
          refine ⟨_, _, _, rfl, rfl, Rel_Q hn hQ hO ⟨p1, by rw [st_slot _ _ (by omega)]; exact p2, by rw [st_slot _ _ (by omega)]; exact p3, by rw [st_slot _ _ (by omega), st_slot _ _ (by omega)]; exact p4, by rw [st_slot _ _ (by omega), st_slot _ _ (by omega)]; exact p5, by rw [st_slot _ _ (by omega)]; exact p6, fun q hq => ?_⟩ (fun k hk => st_row _ _ _ (by omega)) (fun k hk => st_row _ _ _ (by omega))⟩
          have := p7 q hq
          unfold nt_q1 at this ⊢
          simp only [st_app]
          by_cases e : q = p
          · subst e
            simp at this ⊢
            exact ⟨this.1, this.2.1, this.2.2.2.1, this.2.2.2.2.1, this.2.2.2.2.2.1, ⟨w, hw, rfl⟩, this.2.2.2.2.2.2.2⟩
          · simp [e] at this ⊢
            exact this
theorem q_shl0 {s : Nat} (hs : s < 32) : (0 : Int32) <<< (nI s &&& 31) = 0 := b_ext (fun j hj => by rw [b_shl s hs 0 hj, b_0, Bool.and_false, b_0])
theorem st_hears {nr : Nat} {ln : Nat → Nat} {g r : nt_T} (h : nt_Rel nr ln g r) (x1 x2 x3 : Int32) : ∃ (v : Int32) (ga : nt_T) (gb : nt_T), fNt_hears x1 x2 x3 g = some (v, ga) ∧ fMo_hears x1 x2 x3 r = some (v, gb) ∧ nt_Rel nr ln ga gb := by
  obtain ⟨m, n, hn, hQ, hO⟩ := id h
  have hP := hQ.2.2
  have hm := hQ.1.1
  unfold fNt_hears fMo_hears
  rw [(q_has hP x1).1, (q_has hP x1).2, q_b1, q_b1]
  cases h1 : nt_in x1 n
  · exact ⟨_, _, _, if_pos rfl, if_pos rfl, h⟩
  · rw [if_neg (show ¬ bI true = 0 by decide), if_neg (show ¬ bI true = 0 by decide), qS_has hQ.1, qS_is hQ.1, q_b1, q_b1]
    cases h2 : nt_in x2 m
    · exact ⟨_, _, _, if_pos rfl, if_pos rfl, h⟩
    · rw [if_neg (show ¬ bI true = 0 by decide), if_neg (show ¬ bI true = 0 by decide), q_below (y := (2 : Int32)) (n := 2) (by omega) rfl, q_moin (x := x3) (n := 2) (by omega) (by decide), q_b1, q_b1]
      cases h3 : nt_in x3 2
      · exact ⟨_, _, _, if_pos rfl, if_pos rfl, h⟩
      · rw [if_neg (show ¬ bI true = 0 by decide), if_neg (show ¬ bI true = 0 by decide)]
        obtain ⟨p, hp, rfl⟩ := q_in_of (by omega) h1
        obtain ⟨s, hs, rfl⟩ := q_in_of (by omega) h2
        obtain ⟨i, hi, rfl⟩ := q_in_of (by omega) h3
        have hin := q_in (show p < 9 by omega) (show 9 < 2 ^ 31 by omega)
        have hcl := nI_clamp (show p < 2 ^ 31 by omega)
        have hi2 := q_in (show 8 * p + s < 72 by omega) (show 72 < 2 ^ 31 by omega)
        have hc2 := nI_clamp (show 8 * p + s < 2 ^ 31 by omega)
        obtain ⟨p1, p2, p3, p4, p5, p6, p7⟩ := id hP
        obtain ⟨a1, a2, a3, a4, a5, a6, a7, a8, a9⟩ := id (p7 p hp)
        have a4 : g 18 p = r 10 p := a4
        have p4 : g 14 8 = r 0 18 := p4
        simp only [hin, hcl, q_gt, q_lt, (q_ix (show p < 9 by omega) (show s < 8 by omega)).2, hi2, hc2]
        rw [st_slot r _ (show (0 : Nat) ≠ 10 ∨ (18 : Nat) ≠ p by omega), a4]
        rcases (show i = 0 ∨ i = 1 by omega) with rfl | rfl
        · rw [if_neg (show ¬ nI 0 = (1 : Int32) by decide)]
          have ef := q_forget (b := 14) (g := g) (s := s) (show p < 9 by omega)
          have ef : fPp_forget 14 (nI p) (nI s) g = some (nt_st g 18 p (g 18 p &&& (((1 : Int32) <<< (nI s &&& 31)) ^^^ (-1 : Int32)))) := ef
          rw [ef, q_b1, a4, nI_0, q_shl0 (show s < 32 by omega)]
          have ez : ∀ x : Int32, x ||| 0 = x := fun x => b_ext (fun j hj => by rw [b_or, b_0, Bool.or_false])
          rw [ez]
          refine ⟨_, _, _, rfl, rfl, Rel_Q hn hQ hO ⟨p1, by rw [st_slot _ _ (by omega)]; exact p2, by rw [st_slot _ _ (by omega), st_slot _ _ (by omega)]; exact p3, by rw [st_slot _ _ (by omega), st_slot _ _ (by omega), st_slot _ _ (by omega)]; exact p4, by rw [st_slot _ _ (by omega), st_slot _ _ (by omega), st_slot _ _ (by omega)]; exact p5, by rw [st_slot _ _ (by omega), st_slot _ _ (by omega)]; exact p6, fun q hq => ?_⟩ (fun k hk => st_row _ _ _ (by omega)) (fun k hk => by rw [st_row _ _ _ (by omega), st_row _ _ _ (by omega)])⟩
          obtain ⟨c1, c2, c3, c4, c5, c6, c7, c8, c9⟩ := p7 q hq
          unfold nt_q1
          rw [st_row _ _ _ (show 14 + 1 ≠ 18 by omega), st_row _ _ _ (show 14 + 2 ≠ 18 by omega), st_row _ _ _ (show 14 + 3 ≠ 18 by omega), st_row _ _ _ (show 14 + 5 ≠ 18 by omega), st_row _ _ _ (show 11 ≠ 12 by omega), st_row _ _ _ (show 11 ≠ 10 by omega), st_row _ _ _ (show 8 ≠ 12 by omega), st_row _ _ _ (show 8 ≠ 10 by omega), st_row _ _ _ (show 9 ≠ 12 by omega), st_row _ _ _ (show 9 ≠ 10 by omega), st_row _ _ _ (show 10 ≠ 12 by omega)]
          by_cases e : q = p
          · subst e
            rw [st_eq, st_eq]
            refine ⟨c1, c2, c3, rfl, c5, c6, c7, ?_, fun t ht hbt => ?_⟩
            · obtain ⟨x, hx, ex⟩ := c8
              refine q_byte (k := 8) (by omega) (fun j h1 h2 => ?_)
              rw [q_clr _ (show s < 32 by omega) h2, ex, q_small 8 (by omega) x (by omega) j h2 h1]
              rfl
            · rw [q_clr _ (show s < 32 by omega) (show t < 32 by omega), Bool.and_eq_true] at hbt
              have hts : ¬ t = s := fun e => by have := hbt.2; rw [decide_eq_true e] at this; cases this
              rw [st_slot _ _ (Or.inr (show 8 * q + t ≠ 8 * q + s by omega)), st_slot _ _ (Or.inl (by omega))]
              exact c9 t ht hbt.1
          · rw [st_slot _ _ (Or.inr e), st_slot _ _ (Or.inr e)]
            refine ⟨c1, c2, c3, c4, c5, c6, c7, c8, fun t ht hbt => ?_⟩
            rw [st_slot _ _ (Or.inr (show 8 * q + t ≠ 8 * p + s by omega)), st_slot _ _ (Or.inl (by omega))]
            exact c9 t ht hbt
        · rw [if_pos (show nI 1 = (1 : Int32) from rfl)]
          have ef := q_hear (b := 14) (g := g) (show p < 9 by omega) (show s < 8 by omega)
          have ef : fPp_hear 14 (nI p) (nI s) g = some (nt_st (nt_st g 18 p (g 18 p ||| ((1 : Int32) <<< (nI s &&& 31)))) 19 (8 * p + s) ((nt_st g 18 p (g 18 p ||| ((1 : Int32) <<< (nI s &&& 31)))) 14 8)) := ef
          rw [ef, q_b1, st_slot g _ (show (14 : Nat) ≠ 18 ∨ (8 : Nat) ≠ p by omega), a4]
          have ez : (r 10 p &&& (((1 : Int32) <<< (nI s &&& 31)) ^^^ (-1 : Int32))) ||| (nI 1 <<< (nI s &&& 31)) = r 10 p ||| ((1 : Int32) <<< (nI s &&& 31)) := by
            rw [show nI 1 = (1 : Int32) from rfl]
            refine b_ext (fun j hj => ?_)
            rw [b_or, q_clr _ (show s < 32 by omega) hj, q_bit (show s < 32 by omega) hj, q_set _ (show s < 32 by omega) hj]
            cases bt (r 10 p) j <;> cases decide (j = s) <;> rfl
          rw [ez]
          refine ⟨_, _, _, rfl, rfl, Rel_Q hn hQ hO ⟨p1, by rw [st_slot _ _ (by omega), st_slot _ _ (by omega)]; exact p2, by rw [st_slot _ _ (by omega), st_slot _ _ (by omega)]; exact p3, by rw [st_slot _ _ (by omega), st_slot _ _ (by omega), st_slot _ _ (by omega), st_slot _ _ (by omega)]; exact p4, by rw [st_slot _ _ (by omega), st_slot _ _ (by omega), st_slot _ _ (by omega), st_slot _ _ (by omega)]; exact p5, by rw [st_slot _ _ (by omega), st_slot _ _ (by omega)]; exact p6, fun q hq => ?_⟩ (fun k hk => by rw [st_row _ _ _ (by omega), st_row _ _ _ (by omega)]) (fun k hk => by rw [st_row _ _ _ (by omega), st_row _ _ _ (by omega)])⟩
          obtain ⟨c1, c2, c3, c4, c5, c6, c7, c8, c9⟩ := p7 q hq
          unfold nt_q1
          rw [st_row _ _ _ (show 14 + 1 ≠ 19 by omega), st_row _ _ _ (show 14 + 1 ≠ 18 by omega), st_row _ _ _ (show 14 + 2 ≠ 19 by omega), st_row _ _ _ (show 14 + 2 ≠ 18 by omega), st_row _ _ _ (show 14 + 3 ≠ 19 by omega), st_row _ _ _ (show 14 + 3 ≠ 18 by omega), st_row _ _ _ (show 14 + 4 ≠ 19 by omega), st_row _ _ _ (show 11 ≠ 12 by omega), st_row _ _ _ (show 11 ≠ 10 by omega), st_row _ _ _ (show 8 ≠ 12 by omega), st_row _ _ _ (show 8 ≠ 10 by omega), st_row _ _ _ (show 9 ≠ 12 by omega), st_row _ _ _ (show 9 ≠ 10 by omega), st_row _ _ _ (show 10 ≠ 12 by omega)]
          by_cases e : q = p
          · subst e
            rw [st_eq, st_eq]
            refine ⟨c1, c2, c3, rfl, c5, c6, c7, ?_, fun t ht hbt => ?_⟩
            · obtain ⟨x, hx, ex⟩ := c8
              refine q_byte (k := 8) (by omega) (fun j h1 h2 => ?_)
              rw [q_set _ (show s < 32 by omega) h2, ex, q_small 8 (by omega) x (by omega) j h2 h1, decide_eq_false (by omega)]
              rfl
            · by_cases hts : t = s
              · subst hts
                rw [st_eq, st_eq]
                exact ⟨p4, p6⟩
              · rw [q_set _ (show s < 32 by omega) (show t < 32 by omega), decide_eq_false hts, Bool.or_false] at hbt
                rw [st_slot _ _ (Or.inr (show 8 * q + t ≠ 8 * q + s by omega)), st_slot _ _ (Or.inl (by omega)), st_slot _ _ (Or.inr (show 8 * q + t ≠ 8 * q + s by omega)), st_slot _ _ (Or.inl (by omega))]
                exact c9 t ht hbt
          · rw [st_slot _ _ (Or.inr e), st_slot _ _ (Or.inr e)]
            refine ⟨c1, c2, c3, c4, c5, c6, c7, c8, fun t ht hbt => ?_⟩
            rw [st_slot _ _ (Or.inr (show 8 * q + t ≠ 8 * p + s by omega)), st_slot _ _ (Or.inl (by omega)), st_slot _ _ (Or.inr (show 8 * q + t ≠ 8 * p + s by omega)), st_slot _ _ (Or.inl (by omega))]
            exact c9 t ht hbt
theorem st_feed {nr : Nat} {ln : Nat → Nat} {g r : nt_T} (h : nt_Rel nr ln g r) (x1 : Int32) : ∃ (v : Int32) (ga : nt_T) (gb : nt_T), fNt_feed x1 g = some (v, ga) ∧ fMo_feed x1 r = some (v, gb) ∧ nt_Rel nr ln ga gb := by
  obtain ⟨m, n, hn, hQ, hO⟩ := id h
  obtain ⟨k, hk, e1, e2, hq⟩ := id hO.1
  unfold fNt_feed fMo_feed
  rw [q_below (y := (256 : Int32)) (n := 256) (by omega) rfl, q_moin (x := x1) (n := 256) (by omega) (by decide), q_b1, q_b1]
  cases h1 : nt_in x1 256
  · exact ⟨_, _, _, if_pos rfl, if_pos rfl, h⟩
  · rw [if_neg (show ¬ bI true = 0 by decide), if_neg (show ¬ bI true = 0 by decide)]
    obtain ⟨c, hc, rfl⟩ := q_in_of (by omega) h1
    unfold fRd_put
    by_cases hk2 : k < 160
    · have c1 : g 10 1 < (160 : Int32) := by rw [e1]; exact (nI_ltI (a := k) (b := 160) (by omega) (by omega)).mpr hk2
      have c2 : ¬ r 0 6 = (160 : Int32) := fun e => by
        rw [e2] at e
        have := (nI_eq (a := k) (b := 160) (by omega) (by omega)).mp e
        omega
      have hin := q_in hk2 (show 160 < 2 ^ 31 by omega)
      have hcl := nI_clamp (show k < 2 ^ 31 by omega)
      rw [if_pos c1, if_neg c2]
      simp only [e1, e2, hin, hcl, q_gt, q_lt]
      rw [st_slot g _ (show (10 : Nat) ≠ 11 ∨ (1 : Nat) ≠ k by omega), st_slot r _ (show (0 : Nat) ≠ 3 ∨ (6 : Nat) ≠ k by omega), e1, e2, nI_1, st_eq, st_eq, q_b2]
      refine ⟨_, _, _, rfl, rfl, m, n, hn, ⟨qS_F (fun k h1 h2 => by rw [st_row _ _ _ (by omega), st_row _ _ _ (by omega)]) (fun k h1 h2 => by rw [st_row _ _ _ (by omega), st_row _ _ _ (by omega)]) (by rw [st_slot _ _ (by omega), st_slot _ _ (by omega)]) hQ.1, qT_F (by rw [st_slot _ _ (by omega), st_slot _ _ (by omega)]) (fun k hk => by rw [st_row _ _ _ (by omega), st_row _ _ _ (by omega)]) (by rw [st_row _ _ _ (by omega), st_row _ _ _ (by omega)]) (by rw [st_row _ _ _ (by omega), st_row _ _ _ (by omega)]) (by rw [st_slot _ _ (by omega), st_slot _ _ (by omega)]) (by rw [st_slot _ _ (by omega), st_slot _ _ (by omega)]) hQ.2.1, qP_F (fun k h1 h2 => by rw [st_row _ _ _ (by omega), st_row _ _ _ (by omega)]) (fun k h1 h2 => by rw [st_row _ _ _ (by omega), st_row _ _ _ (by omega)]) (fun j hj => by rw [st_slot _ _ (by omega), st_slot _ _ (by omega)]) hQ.2.2⟩, ⟨k + 1, by omega, st_eq _ _ _ _, st_eq _ _ _ _, fun i hi => ?_⟩, qI_F (by rw [st_slot _ _ (by omega), st_slot _ _ (by omega)]) (fun k h1 h2 => by rw [st_row _ _ _ (by omega), st_row _ _ _ (by omega)]) (fun j h1 h2 => by rw [st_slot _ _ (by omega), st_slot _ _ (by omega)]) (fun k h1 h2 => by rw [st_row _ _ _ (by omega), st_row _ _ _ (by omega)]) hO.2.1, qH_F (fun k h1 h2 => by rw [st_row _ _ _ (by omega), st_row _ _ _ (by omega)]) (fun k h1 h2 => by rw [st_row _ _ _ (by omega), st_row _ _ _ (by omega)]) hO.2.2⟩
      rw [st_slot (nt_st g 11 k (nI c)) _ (by omega), st_slot (nt_st r 3 k (nI c)) _ (by omega)]
      by_cases e : i = k
      · subst e
        rw [st_eq, st_eq]
        exact ⟨rfl, c, hc, rfl⟩
      · rw [st_slot _ _ (Or.inr e), st_slot _ _ (Or.inr e)]
        exact hq i (by omega)
    · obtain rfl : k = 160 := by omega
      have c1 : ¬ g 10 1 < (160 : Int32) := by rw [e1]; decide
      rw [if_neg c1, if_pos (show r 0 6 = (160 : Int32) from e2), q_b2]
      exact ⟨_, _, _, rfl, rfl, h⟩
theorem st_force {nr : Nat} {ln : Nat → Nat} {g r : nt_T} (h : nt_Rel nr ln g r) (x1 : Int32) : ∃ (v : Int32) (ga : nt_T) (gb : nt_T), fNt_force x1 g = some (v, ga) ∧ fMo_force x1 r = some (v, gb) ∧ nt_Rel nr ln ga gb := by
  obtain ⟨m, n, hn, hQ, hO⟩ := id h
  obtain ⟨c1, c2⟩ := qT_c hQ.2.1
  have hnr := qT_n hQ.2.1
  unfold fNt_force fMo_force fTx_has
  rw [q_below (n := nr) (by omega) c1, q_b1, q_gd (q_nb _), q_b1, q_moin (n := nr) (by omega) (by rw [c2]; exact q_pred nr (by omega)), q_b1]
  cases h1 : nt_in x1 nr
  · exact ⟨_, _, _, if_pos rfl, if_pos rfl, h⟩
  · rw [if_neg (show ¬ bI true = 0 by decide), if_neg (show ¬ bI true = 0 by decide)]
    obtain ⟨t, ht, rfl⟩ := q_in_of (by omega) h1
    obtain ⟨p1, p2, p3, p4, p5, p6, p7⟩ := hQ.2.2
    rw [q_lt, q_lt, q_lt, q_lt, p5]
    refine ⟨_, _, _, rfl, rfl, m, n, hn, ⟨qS_F (fun k h1 h2 => st_row _ _ _ (by omega)) (fun k h1 h2 => st_row _ _ _ (by omega)) (st_slot _ _ (by omega)) hQ.1, qT_R (st_slot _ _ (by omega)) (fun k hk => st_row _ _ _ (by omega)) (st_row _ _ _ (by omega)) (st_row _ _ _ (by omega)) (st_slot _ _ (by omega)) ⟨t, ht, st_eq _ _ _ _⟩ hQ.2.1, ⟨p1, ?_, ?_, ?_, ?_, ?_, fun p hp => ?_⟩⟩, qR_F (st_slot _ _ (by omega)) (st_row _ _ _ (by omega)) (st_slot _ _ (by omega)) (st_row _ _ _ (by omega)) hO.1, qI_F (st_slot _ _ (by omega)) (fun k h1 h2 => st_row _ _ _ (by omega)) (fun j h1 h2 => st_slot _ _ (by omega)) (fun k h1 h2 => st_row _ _ _ (by omega)) hO.2.1, qH_F (fun k h1 h2 => st_row _ _ _ (by omega)) (fun k h1 h2 => st_row _ _ _ (by omega)) hO.2.2⟩
    · rw [st_slot _ _ (by omega)]; exact p2
    · rw [st_slot _ _ (by omega)]; exact p3
    · rw [st_slot _ _ (by omega), st_slot _ _ (by omega)]; exact p4
    · rw [st_eq, st_eq]
    · rw [st_slot _ _ (by omega)]; exact p6
    · have := p7 p hp
      unfold nt_q1 at this ⊢
      rw [st_row _ _ _ (by omega), st_row _ _ _ (by omega), st_row _ _ _ (by omega), st_row _ _ _ (by omega), st_row _ _ _ (by omega), st_row _ _ _ (by omega), st_row _ _ _ (by omega), st_row _ _ _ (by omega), st_row _ _ _ (by omega), st_row _ _ _ (by omega)]
      exact this
